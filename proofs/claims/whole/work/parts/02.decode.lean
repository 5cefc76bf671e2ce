theorem dX0_init_0 : decode cX0_init 0 = .ok (.aload_n 0, 1) := by decide +kernel
theorem dX0_init_1 : decode cX0_init 1 = .ok (.invokespecial 3, 3) := by decide +kernel
theorem dX0_init_4 : decode cX0_init 4 = .ok (.aload_n 0, 1) := by decide +kernel
theorem dX0_init_5 : decode cX0_init 5 = .ok (.aload_n 1, 1) := by decide +kernel
theorem dX0_init_6 : decode cX0_init 6 = .ok (.putfield 9, 3) := by decide +kernel
theorem dX0_init_9 : decode cX0_init 9 = .ok (.return_, 1) := by decide +kernel
theorem dX0_changesOf_0 : decode cX0_changesOf 0 = .ok (.iconst 0, 1) := by decide +kernel
theorem dX0_changesOf_1 : decode cX0_changesOf 1 = .ok (.istore_n 3, 1) := by decide +kernel
theorem dX0_changesOf_2 : decode cX0_changesOf 2 = .ok (.iconst 1, 1) := by decide +kernel
theorem dX0_changesOf_3 : decode cX0_changesOf 3 = .ok (.istore 4, 2) := by decide +kernel
theorem dX0_changesOf_5 : decode cX0_changesOf 5 = .ok (.iload 4, 2) := by decide +kernel
theorem dX0_changesOf_7 : decode cX0_changesOf 7 = .ok (.aload_n 0, 1) := by decide +kernel
theorem dX0_changesOf_8 : decode cX0_changesOf 8 = .ok (.getfield 9, 3) := by decide +kernel
theorem dX0_changesOf_11 : decode cX0_changesOf 11 = .ok (.getfield 15, 3) := by decide +kernel
theorem dX0_changesOf_14 : decode cX0_changesOf 14 = .ok (.if_icmp .gt 67, 3) := by decide +kernel
theorem dX0_changesOf_17 : decode cX0_changesOf 17 = .ok (.aload_n 0, 1) := by decide +kernel
theorem dX0_changesOf_18 : decode cX0_changesOf 18 = .ok (.getfield 9, 3) := by decide +kernel
theorem dX0_changesOf_21 : decode cX0_changesOf 21 = .ok (.getfield 21, 3) := by decide +kernel
theorem dX0_changesOf_24 : decode cX0_changesOf 24 = .ok (.iload_n 1, 1) := by decide +kernel
theorem dX0_changesOf_25 : decode cX0_changesOf 25 = .ok (.iload 4, 2) := by decide +kernel
theorem dX0_changesOf_27 : decode cX0_changesOf 27 = .ok (.iconst 1, 1) := by decide +kernel
theorem dX0_changesOf_28 : decode cX0_changesOf 28 = .ok (.isub, 1) := by decide +kernel
theorem dX0_changesOf_29 : decode cX0_changesOf 29 = .ok (.invokevirtual 25, 3) := by decide +kernel
theorem dX0_changesOf_32 : decode cX0_changesOf 32 = .ok (.istore 5, 2) := by decide +kernel
theorem dX0_changesOf_34 : decode cX0_changesOf 34 = .ok (.aload_n 0, 1) := by decide +kernel
theorem dX0_changesOf_35 : decode cX0_changesOf 35 = .ok (.getfield 9, 3) := by decide +kernel
theorem dX0_changesOf_38 : decode cX0_changesOf 38 = .ok (.getfield 21, 3) := by decide +kernel
theorem dX0_changesOf_41 : decode cX0_changesOf 41 = .ok (.iload_n 1, 1) := by decide +kernel
theorem dX0_changesOf_42 : decode cX0_changesOf 42 = .ok (.iload 4, 2) := by decide +kernel
theorem dX0_changesOf_44 : decode cX0_changesOf 44 = .ok (.invokevirtual 25, 3) := by decide +kernel
theorem dX0_changesOf_47 : decode cX0_changesOf 47 = .ok (.istore 6, 2) := by decide +kernel
theorem dX0_changesOf_49 : decode cX0_changesOf 49 = .ok (.iload 6, 2) := by decide +kernel
theorem dX0_changesOf_51 : decode cX0_changesOf 51 = .ok (.iload 5, 2) := by decide +kernel
theorem dX0_changesOf_53 : decode cX0_changesOf 53 = .ok (.if_icmp .eq 22, 3) := by decide +kernel
theorem dX0_changesOf_56 : decode cX0_changesOf 56 = .ok (.iload_n 2, 1) := by decide +kernel
theorem dX0_changesOf_57 : decode cX0_changesOf 57 = .ok (.iconst 3, 1) := by decide +kernel
theorem dX0_changesOf_58 : decode cX0_changesOf 58 = .ok (.if_icmp .eq 14, 3) := by decide +kernel
theorem dX0_changesOf_61 : decode cX0_changesOf 61 = .ok (.aload_n 0, 1) := by decide +kernel
theorem dX0_changesOf_62 : decode cX0_changesOf 62 = .ok (.iload_n 1, 1) := by decide +kernel
theorem dX0_changesOf_63 : decode cX0_changesOf 63 = .ok (.iload 4, 2) := by decide +kernel
theorem dX0_changesOf_65 : decode cX0_changesOf 65 = .ok (.iload_n 2, 1) := by decide +kernel
theorem dX0_changesOf_66 : decode cX0_changesOf 66 = .ok (.invokevirtual 31, 3) := by decide +kernel
theorem dX0_changesOf_69 : decode cX0_changesOf 69 = .ok (.ifCond .eq 6, 3) := by decide +kernel
theorem dX0_changesOf_72 : decode cX0_changesOf 72 = .ok (.iinc 3 1, 3) := by decide +kernel
theorem dX0_changesOf_75 : decode cX0_changesOf 75 = .ok (.iinc 4 1, 3) := by decide +kernel
theorem dX0_changesOf_78 : decode cX0_changesOf 78 = .ok (.goto (-73), 3) := by decide +kernel
theorem dX0_changesOf_81 : decode cX0_changesOf 81 = .ok (.iload_n 3, 1) := by decide +kernel
theorem dX0_changesOf_82 : decode cX0_changesOf 82 = .ok (.ireturn, 1) := by decide +kernel
theorem dX0_isLed_0 : decode cX0_isLed 0 = .ok (.aload_n 0, 1) := by decide +kernel
theorem dX0_isLed_1 : decode cX0_isLed 1 = .ok (.getfield 9, 3) := by decide +kernel
theorem dX0_isLed_4 : decode cX0_isLed 4 = .ok (.getfield 35, 3) := by decide +kernel
theorem dX0_isLed_7 : decode cX0_isLed 7 = .ok (.iload_n 1, 1) := by decide +kernel
theorem dX0_isLed_8 : decode cX0_isLed 8 = .ok (.iload_n 2, 1) := by decide +kernel
theorem dX0_isLed_9 : decode cX0_isLed 9 = .ok (.iconst 1, 1) := by decide +kernel
theorem dX0_isLed_10 : decode cX0_isLed 10 = .ok (.isub, 1) := by decide +kernel
theorem dX0_isLed_11 : decode cX0_isLed 11 = .ok (.invokevirtual 39, 3) := by decide +kernel
theorem dX0_isLed_14 : decode cX0_isLed 14 = .ok (.aload_n 0, 1) := by decide +kernel
theorem dX0_isLed_15 : decode cX0_isLed 15 = .ok (.getfield 9, 3) := by decide +kernel
theorem dX0_isLed_18 : decode cX0_isLed 18 = .ok (.getfield 35, 3) := by decide +kernel
theorem dX0_isLed_21 : decode cX0_isLed 21 = .ok (.getfield 45, 3) := by decide +kernel
theorem dX0_isLed_24 : decode cX0_isLed 24 = .ok (.iload_n 3, 1) := by decide +kernel
theorem dX0_isLed_25 : decode cX0_isLed 25 = .ok (.iaload, 1) := by decide +kernel
theorem dX0_isLed_26 : decode cX0_isLed 26 = .ok (.istore 4, 2) := by decide +kernel
theorem dX0_isLed_28 : decode cX0_isLed 28 = .ok (.iload 4, 2) := by decide +kernel
theorem dX0_isLed_30 : decode cX0_isLed 30 = .ok (.iconst (-1), 1) := by decide +kernel
theorem dX0_isLed_31 : decode cX0_isLed 31 = .ok (.if_icmp .ne 5, 3) := by decide +kernel
theorem dX0_isLed_34 : decode cX0_isLed 34 = .ok (.iconst 0, 1) := by decide +kernel
theorem dX0_isLed_35 : decode cX0_isLed 35 = .ok (.ireturn, 1) := by decide +kernel
theorem dX0_isLed_36 : decode cX0_isLed 36 = .ok (.aload_n 0, 1) := by decide +kernel
theorem dX0_isLed_37 : decode cX0_isLed 37 = .ok (.getfield 9, 3) := by decide +kernel
theorem dX0_isLed_40 : decode cX0_isLed 40 = .ok (.getfield 21, 3) := by decide +kernel
theorem dX0_isLed_43 : decode cX0_isLed 43 = .ok (.iload_n 1, 1) := by decide +kernel
theorem dX0_isLed_44 : decode cX0_isLed 44 = .ok (.iload_n 2, 1) := by decide +kernel
theorem dX0_isLed_45 : decode cX0_isLed 45 = .ok (.iconst 1, 1) := by decide +kernel
theorem dX0_isLed_46 : decode cX0_isLed 46 = .ok (.isub, 1) := by decide +kernel
theorem dX0_isLed_47 : decode cX0_isLed 47 = .ok (.invokevirtual 25, 3) := by decide +kernel
theorem dX0_isLed_50 : decode cX0_isLed 50 = .ok (.iload 4, 2) := by decide +kernel
theorem dX0_isLed_52 : decode cX0_isLed 52 = .ok (.isub, 1) := by decide +kernel
theorem dX0_isLed_53 : decode cX0_isLed 53 = .ok (.invokestatic 49, 3) := by decide +kernel
theorem dX0_isLed_56 : decode cX0_isLed 56 = .ok (.istore 5, 2) := by decide +kernel
theorem dX0_isLed_58 : decode cX0_isLed 58 = .ok (.aload_n 0, 1) := by decide +kernel
theorem dX0_isLed_59 : decode cX0_isLed 59 = .ok (.getfield 9, 3) := by decide +kernel
theorem dX0_isLed_62 : decode cX0_isLed 62 = .ok (.getfield 21, 3) := by decide +kernel
theorem dX0_isLed_65 : decode cX0_isLed 65 = .ok (.iload_n 1, 1) := by decide +kernel
theorem dX0_isLed_66 : decode cX0_isLed 66 = .ok (.iload_n 2, 1) := by decide +kernel
theorem dX0_isLed_67 : decode cX0_isLed 67 = .ok (.invokevirtual 25, 3) := by decide +kernel
theorem dX0_isLed_70 : decode cX0_isLed 70 = .ok (.iload 4, 2) := by decide +kernel
theorem dX0_isLed_72 : decode cX0_isLed 72 = .ok (.isub, 1) := by decide +kernel
theorem dX0_isLed_73 : decode cX0_isLed 73 = .ok (.invokestatic 49, 3) := by decide +kernel
theorem dX0_isLed_76 : decode cX0_isLed 76 = .ok (.istore 6, 2) := by decide +kernel
theorem dX0_isLed_78 : decode cX0_isLed 78 = .ok (.iload_n 3, 1) := by decide +kernel
theorem dX0_isLed_79 : decode cX0_isLed 79 = .ok (.iconst 1, 1) := by decide +kernel
theorem dX0_isLed_80 : decode cX0_isLed 80 = .ok (.if_icmp .ne 18, 3) := by decide +kernel
theorem dX0_isLed_83 : decode cX0_isLed 83 = .ok (.iload 6, 2) := by decide +kernel
theorem dX0_isLed_85 : decode cX0_isLed 85 = .ok (.iload 5, 2) := by decide +kernel
theorem dX0_isLed_87 : decode cX0_isLed 87 = .ok (.if_icmp .le 7, 3) := by decide +kernel
theorem dX0_isLed_90 : decode cX0_isLed 90 = .ok (.iconst 1, 1) := by decide +kernel
theorem dX0_isLed_91 : decode cX0_isLed 91 = .ok (.goto 19, 3) := by decide +kernel
theorem dX0_isLed_94 : decode cX0_isLed 94 = .ok (.iconst 0, 1) := by decide +kernel
theorem dX0_isLed_95 : decode cX0_isLed 95 = .ok (.goto 15, 3) := by decide +kernel
theorem dX0_isLed_98 : decode cX0_isLed 98 = .ok (.iload 6, 2) := by decide +kernel
theorem dX0_isLed_100 : decode cX0_isLed 100 = .ok (.iload 5, 2) := by decide +kernel
theorem dX0_isLed_102 : decode cX0_isLed 102 = .ok (.if_icmp .ge 7, 3) := by decide +kernel
theorem dX0_isLed_105 : decode cX0_isLed 105 = .ok (.iconst 1, 1) := by decide +kernel
theorem dX0_isLed_106 : decode cX0_isLed 106 = .ok (.goto 4, 3) := by decide +kernel
theorem dX0_isLed_109 : decode cX0_isLed 109 = .ok (.iconst 0, 1) := by decide +kernel
theorem dX0_isLed_110 : decode cX0_isLed 110 = .ok (.ireturn, 1) := by decide +kernel
theorem dX0_startsOf_0 : decode cX0_startsOf 0 = .ok (.iconst 0, 1) := by decide +kernel
theorem dX0_startsOf_1 : decode cX0_startsOf 1 = .ok (.istore 4, 2) := by decide +kernel
theorem dX0_startsOf_3 : decode cX0_startsOf 3 = .ok (.iconst 0, 1) := by decide +kernel
theorem dX0_startsOf_4 : decode cX0_startsOf 4 = .ok (.istore 5, 2) := by decide +kernel
theorem dX0_startsOf_6 : decode cX0_startsOf 6 = .ok (.iload 5, 2) := by decide +kernel
theorem dX0_startsOf_8 : decode cX0_startsOf 8 = .ok (.aload_n 0, 1) := by decide +kernel
theorem dX0_startsOf_9 : decode cX0_startsOf 9 = .ok (.getfield 9, 3) := by decide +kernel
theorem dX0_startsOf_12 : decode cX0_startsOf 12 = .ok (.getfield 55, 3) := by decide +kernel
theorem dX0_startsOf_15 : decode cX0_startsOf 15 = .ok (.getfield 59, 3) := by decide +kernel
theorem dX0_startsOf_18 : decode cX0_startsOf 18 = .ok (.if_icmp .ge 86, 3) := by decide +kernel
theorem dX0_startsOf_21 : decode cX0_startsOf 21 = .ok (.aload_n 0, 1) := by decide +kernel
theorem dX0_startsOf_22 : decode cX0_startsOf 22 = .ok (.iload 5, 2) := by decide +kernel
theorem dX0_startsOf_24 : decode cX0_startsOf 24 = .ok (.iconst 0, 1) := by decide +kernel
theorem dX0_startsOf_25 : decode cX0_startsOf 25 = .ok (.iload_n 1, 1) := by decide +kernel
theorem dX0_startsOf_26 : decode cX0_startsOf 26 = .ok (.invokevirtual 64, 3) := by decide +kernel
theorem dX0_startsOf_29 : decode cX0_startsOf 29 = .ok (.istore 6, 2) := by decide +kernel
theorem dX0_startsOf_31 : decode cX0_startsOf 31 = .ok (.iconst 1, 1) := by decide +kernel
theorem dX0_startsOf_32 : decode cX0_startsOf 32 = .ok (.istore 7, 2) := by decide +kernel
theorem dX0_startsOf_34 : decode cX0_startsOf 34 = .ok (.iload 7, 2) := by decide +kernel
theorem dX0_startsOf_36 : decode cX0_startsOf 36 = .ok (.aload_n 0, 1) := by decide +kernel
theorem dX0_startsOf_37 : decode cX0_startsOf 37 = .ok (.getfield 9, 3) := by decide +kernel
theorem dX0_startsOf_40 : decode cX0_startsOf 40 = .ok (.getfield 15, 3) := by decide +kernel
theorem dX0_startsOf_43 : decode cX0_startsOf 43 = .ok (.if_icmp .gt 55, 3) := by decide +kernel
theorem dX0_startsOf_46 : decode cX0_startsOf 46 = .ok (.aload_n 0, 1) := by decide +kernel
theorem dX0_startsOf_47 : decode cX0_startsOf 47 = .ok (.iload 5, 2) := by decide +kernel
theorem dX0_startsOf_49 : decode cX0_startsOf 49 = .ok (.iload 7, 2) := by decide +kernel
theorem dX0_startsOf_51 : decode cX0_startsOf 51 = .ok (.iload_n 1, 1) := by decide +kernel
theorem dX0_startsOf_52 : decode cX0_startsOf 52 = .ok (.invokevirtual 64, 3) := by decide +kernel
theorem dX0_startsOf_55 : decode cX0_startsOf 55 = .ok (.istore 8, 2) := by decide +kernel
theorem dX0_startsOf_57 : decode cX0_startsOf 57 = .ok (.iload 8, 2) := by decide +kernel
theorem dX0_startsOf_59 : decode cX0_startsOf 59 = .ok (.ifCond .eq 29, 3) := by decide +kernel
theorem dX0_startsOf_62 : decode cX0_startsOf 62 = .ok (.iload 6, 2) := by decide +kernel
theorem dX0_startsOf_64 : decode cX0_startsOf 64 = .ok (.ifCond .ne 24, 3) := by decide +kernel
theorem dX0_startsOf_67 : decode cX0_startsOf 67 = .ok (.iload_n 3, 1) := by decide +kernel
theorem dX0_startsOf_68 : decode cX0_startsOf 68 = .ok (.ifCond .eq 17, 3) := by decide +kernel
theorem dX0_startsOf_71 : decode cX0_startsOf 71 = .ok (.aload_n 0, 1) := by decide +kernel
theorem dX0_startsOf_72 : decode cX0_startsOf 72 = .ok (.iload 5, 2) := by decide +kernel
theorem dX0_startsOf_74 : decode cX0_startsOf 74 = .ok (.iload 7, 2) := by decide +kernel
theorem dX0_startsOf_76 : decode cX0_startsOf 76 = .ok (.iload_n 1, 1) := by decide +kernel
theorem dX0_startsOf_77 : decode cX0_startsOf 77 = .ok (.iload_n 2, 1) := by decide +kernel
theorem dX0_startsOf_78 : decode cX0_startsOf 78 = .ok (.invokevirtual 67, 3) := by decide +kernel
theorem dX0_startsOf_81 : decode cX0_startsOf 81 = .ok (.iload_n 3, 1) := by decide +kernel
theorem dX0_startsOf_82 : decode cX0_startsOf 82 = .ok (.if_icmp .ne 6, 3) := by decide +kernel
theorem dX0_startsOf_85 : decode cX0_startsOf 85 = .ok (.iinc 4 1, 3) := by decide +kernel
theorem dX0_startsOf_88 : decode cX0_startsOf 88 = .ok (.iload 8, 2) := by decide +kernel
theorem dX0_startsOf_90 : decode cX0_startsOf 90 = .ok (.istore 6, 2) := by decide +kernel
theorem dX0_startsOf_92 : decode cX0_startsOf 92 = .ok (.iinc 7 1, 3) := by decide +kernel
theorem dX0_startsOf_95 : decode cX0_startsOf 95 = .ok (.goto (-61), 3) := by decide +kernel
theorem dX0_startsOf_98 : decode cX0_startsOf 98 = .ok (.iinc 5 1, 3) := by decide +kernel
theorem dX0_startsOf_101 : decode cX0_startsOf 101 = .ok (.goto (-95), 3) := by decide +kernel
theorem dX0_startsOf_104 : decode cX0_startsOf 104 = .ok (.iload 4, 2) := by decide +kernel
theorem dX0_startsOf_106 : decode cX0_startsOf 106 = .ok (.ireturn, 1) := by decide +kernel
theorem dX0_endOf_0 : decode cX0_endOf 0 = .ok (.aload_n 0, 1) := by decide +kernel
theorem dX0_endOf_1 : decode cX0_endOf 1 = .ok (.getfield 9, 3) := by decide +kernel
theorem dX0_endOf_4 : decode cX0_endOf 4 = .ok (.getfield 15, 3) := by decide +kernel
theorem dX0_endOf_7 : decode cX0_endOf 7 = .ok (.iload_n 2, 1) := by decide +kernel
theorem dX0_endOf_8 : decode cX0_endOf 8 = .ok (.iload 4, 2) := by decide +kernel
theorem dX0_endOf_10 : decode cX0_endOf 10 = .ok (.iadd, 1) := by decide +kernel
theorem dX0_endOf_11 : decode cX0_endOf 11 = .ok (.invokestatic 71, 3) := by decide +kernel
theorem dX0_endOf_14 : decode cX0_endOf 14 = .ok (.istore 5, 2) := by decide +kernel
theorem dX0_endOf_16 : decode cX0_endOf 16 = .ok (.aload_n 0, 1) := by decide +kernel
theorem dX0_endOf_17 : decode cX0_endOf 17 = .ok (.getfield 9, 3) := by decide +kernel
theorem dX0_endOf_20 : decode cX0_endOf 20 = .ok (.getfield 21, 3) := by decide +kernel
theorem dX0_endOf_23 : decode cX0_endOf 23 = .ok (.iload_n 1, 1) := by decide +kernel
theorem dX0_endOf_24 : decode cX0_endOf 24 = .ok (.iload_n 2, 1) := by decide +kernel
theorem dX0_endOf_25 : decode cX0_endOf 25 = .ok (.invokevirtual 25, 3) := by decide +kernel
theorem dX0_endOf_28 : decode cX0_endOf 28 = .ok (.istore 6, 2) := by decide +kernel
theorem dX0_endOf_30 : decode cX0_endOf 30 = .ok (.iload_n 2, 1) := by decide +kernel
theorem dX0_endOf_31 : decode cX0_endOf 31 = .ok (.iconst 1, 1) := by decide +kernel
theorem dX0_endOf_32 : decode cX0_endOf 32 = .ok (.iadd, 1) := by decide +kernel
theorem dX0_endOf_33 : decode cX0_endOf 33 = .ok (.istore 7, 2) := by decide +kernel
theorem dX0_endOf_35 : decode cX0_endOf 35 = .ok (.iload 7, 2) := by decide +kernel
theorem dX0_endOf_37 : decode cX0_endOf 37 = .ok (.iload 5, 2) := by decide +kernel
theorem dX0_endOf_39 : decode cX0_endOf 39 = .ok (.if_icmp .gt 42, 3) := by decide +kernel
theorem dX0_endOf_42 : decode cX0_endOf 42 = .ok (.aload_n 0, 1) := by decide +kernel
theorem dX0_endOf_43 : decode cX0_endOf 43 = .ok (.getfield 9, 3) := by decide +kernel
theorem dX0_endOf_46 : decode cX0_endOf 46 = .ok (.getfield 21, 3) := by decide +kernel
theorem dX0_endOf_49 : decode cX0_endOf 49 = .ok (.iload_n 1, 1) := by decide +kernel
theorem dX0_endOf_50 : decode cX0_endOf 50 = .ok (.iload 7, 2) := by decide +kernel
theorem dX0_endOf_52 : decode cX0_endOf 52 = .ok (.invokevirtual 25, 3) := by decide +kernel
theorem dX0_endOf_55 : decode cX0_endOf 55 = .ok (.iload 6, 2) := by decide +kernel
theorem dX0_endOf_57 : decode cX0_endOf 57 = .ok (.if_icmp .eq 5, 3) := by decide +kernel
theorem dX0_endOf_60 : decode cX0_endOf 60 = .ok (.iconst 2, 1) := by decide +kernel
theorem dX0_endOf_61 : decode cX0_endOf 61 = .ok (.ireturn, 1) := by decide +kernel
theorem dX0_endOf_62 : decode cX0_endOf 62 = .ok (.aload_n 0, 1) := by decide +kernel
theorem dX0_endOf_63 : decode cX0_endOf 63 = .ok (.iload_n 1, 1) := by decide +kernel
theorem dX0_endOf_64 : decode cX0_endOf 64 = .ok (.iload 7, 2) := by decide +kernel
theorem dX0_endOf_66 : decode cX0_endOf 66 = .ok (.iload_n 3, 1) := by decide +kernel
theorem dX0_endOf_67 : decode cX0_endOf 67 = .ok (.invokevirtual 64, 3) := by decide +kernel
theorem dX0_endOf_70 : decode cX0_endOf 70 = .ok (.ifCond .ne 5, 3) := by decide +kernel
theorem dX0_endOf_73 : decode cX0_endOf 73 = .ok (.iconst 1, 1) := by decide +kernel
theorem dX0_endOf_74 : decode cX0_endOf 74 = .ok (.ireturn, 1) := by decide +kernel
theorem dX0_endOf_75 : decode cX0_endOf 75 = .ok (.iinc 7 1, 3) := by decide +kernel
theorem dX0_endOf_78 : decode cX0_endOf 78 = .ok (.goto (-43), 3) := by decide +kernel
theorem dX0_endOf_81 : decode cX0_endOf 81 = .ok (.iconst (-1), 1) := by decide +kernel
theorem dX0_endOf_82 : decode cX0_endOf 82 = .ok (.ireturn, 1) := by decide +kernel
theorem dX0_isAlone_0 : decode cX0_isAlone 0 = .ok (.aload_n 0, 1) := by decide +kernel
theorem dX0_isAlone_1 : decode cX0_isAlone 1 = .ok (.getfield 9, 3) := by decide +kernel
theorem dX0_isAlone_4 : decode cX0_isAlone 4 = .ok (.getfield 21, 3) := by decide +kernel
theorem dX0_isAlone_7 : decode cX0_isAlone 7 = .ok (.iload_n 1, 1) := by decide +kernel
theorem dX0_isAlone_8 : decode cX0_isAlone 8 = .ok (.iload_n 2, 1) := by decide +kernel
theorem dX0_isAlone_9 : decode cX0_isAlone 9 = .ok (.invokevirtual 25, 3) := by decide +kernel
theorem dX0_isAlone_12 : decode cX0_isAlone 12 = .ok (.istore 4, 2) := by decide +kernel
theorem dX0_isAlone_14 : decode cX0_isAlone 14 = .ok (.iconst 0, 1) := by decide +kernel
theorem dX0_isAlone_15 : decode cX0_isAlone 15 = .ok (.istore 5, 2) := by decide +kernel
theorem dX0_isAlone_17 : decode cX0_isAlone 17 = .ok (.iload 5, 2) := by decide +kernel
theorem dX0_isAlone_19 : decode cX0_isAlone 19 = .ok (.aload_n 0, 1) := by decide +kernel
theorem dX0_isAlone_20 : decode cX0_isAlone 20 = .ok (.getfield 9, 3) := by decide +kernel
theorem dX0_isAlone_23 : decode cX0_isAlone 23 = .ok (.getfield 55, 3) := by decide +kernel
theorem dX0_isAlone_26 : decode cX0_isAlone 26 = .ok (.getfield 59, 3) := by decide +kernel
theorem dX0_isAlone_29 : decode cX0_isAlone 29 = .ok (.if_icmp .ge 40, 3) := by decide +kernel
theorem dX0_isAlone_32 : decode cX0_isAlone 32 = .ok (.iload 5, 2) := by decide +kernel
theorem dX0_isAlone_34 : decode cX0_isAlone 34 = .ok (.iload_n 1, 1) := by decide +kernel
theorem dX0_isAlone_35 : decode cX0_isAlone 35 = .ok (.if_icmp .eq 28, 3) := by decide +kernel
theorem dX0_isAlone_38 : decode cX0_isAlone 38 = .ok (.aload_n 0, 1) := by decide +kernel
theorem dX0_isAlone_39 : decode cX0_isAlone 39 = .ok (.getfield 9, 3) := by decide +kernel
theorem dX0_isAlone_42 : decode cX0_isAlone 42 = .ok (.getfield 21, 3) := by decide +kernel
theorem dX0_isAlone_45 : decode cX0_isAlone 45 = .ok (.iload 5, 2) := by decide +kernel
theorem dX0_isAlone_47 : decode cX0_isAlone 47 = .ok (.iload_n 2, 1) := by decide +kernel
theorem dX0_isAlone_48 : decode cX0_isAlone 48 = .ok (.invokevirtual 25, 3) := by decide +kernel
theorem dX0_isAlone_51 : decode cX0_isAlone 51 = .ok (.iload 4, 2) := by decide +kernel
theorem dX0_isAlone_53 : decode cX0_isAlone 53 = .ok (.isub, 1) := by decide +kernel
theorem dX0_isAlone_54 : decode cX0_isAlone 54 = .ok (.invokestatic 49, 3) := by decide +kernel
theorem dX0_isAlone_57 : decode cX0_isAlone 57 = .ok (.iload_n 3, 1) := by decide +kernel
theorem dX0_isAlone_58 : decode cX0_isAlone 58 = .ok (.if_icmp .ge 5, 3) := by decide +kernel
theorem dX0_isAlone_61 : decode cX0_isAlone 61 = .ok (.iconst 0, 1) := by decide +kernel
theorem dX0_isAlone_62 : decode cX0_isAlone 62 = .ok (.ireturn, 1) := by decide +kernel
theorem dX0_isAlone_63 : decode cX0_isAlone 63 = .ok (.iinc 5 1, 3) := by decide +kernel
theorem dX0_isAlone_66 : decode cX0_isAlone 66 = .ok (.goto (-49), 3) := by decide +kernel
theorem dX0_isAlone_69 : decode cX0_isAlone 69 = .ok (.iconst 1, 1) := by decide +kernel
theorem dX0_isAlone_70 : decode cX0_isAlone 70 = .ok (.ireturn, 1) := by decide +kernel
theorem dX0_mostLike_0 : decode cX0_mostLike 0 = .ok (.iconst (-1), 1) := by decide +kernel
theorem dX0_mostLike_1 : decode cX0_mostLike 1 = .ok (.istore_n 2, 1) := by decide +kernel
theorem dX0_mostLike_2 : decode cX0_mostLike 2 = .ok (.iconst 0, 1) := by decide +kernel
theorem dX0_mostLike_3 : decode cX0_mostLike 3 = .ok (.istore_n 3, 1) := by decide +kernel
theorem dX0_mostLike_4 : decode cX0_mostLike 4 = .ok (.iload_n 1, 1) := by decide +kernel
theorem dX0_mostLike_5 : decode cX0_mostLike 5 = .ok (.iconst 1, 1) := by decide +kernel
theorem dX0_mostLike_6 : decode cX0_mostLike 6 = .ok (.isub, 1) := by decide +kernel
theorem dX0_mostLike_7 : decode cX0_mostLike 7 = .ok (.istore 4, 2) := by decide +kernel
theorem dX0_mostLike_9 : decode cX0_mostLike 9 = .ok (.iload 4, 2) := by decide +kernel
theorem dX0_mostLike_11 : decode cX0_mostLike 11 = .ok (.aload_n 0, 1) := by decide +kernel
theorem dX0_mostLike_12 : decode cX0_mostLike 12 = .ok (.getfield 9, 3) := by decide +kernel
theorem dX0_mostLike_15 : decode cX0_mostLike 15 = .ok (.getfield 15, 3) := by decide +kernel
theorem dX0_mostLike_18 : decode cX0_mostLike 18 = .ok (.if_icmp .ge 82, 3) := by decide +kernel
theorem dX0_mostLike_21 : decode cX0_mostLike 21 = .ok (.iconst 0, 1) := by decide +kernel
theorem dX0_mostLike_22 : decode cX0_mostLike 22 = .ok (.istore 5, 2) := by decide +kernel
theorem dX0_mostLike_24 : decode cX0_mostLike 24 = .ok (.iconst 0, 1) := by decide +kernel
theorem dX0_mostLike_25 : decode cX0_mostLike 25 = .ok (.istore 6, 2) := by decide +kernel
theorem dX0_mostLike_27 : decode cX0_mostLike 27 = .ok (.iload 6, 2) := by decide +kernel
theorem dX0_mostLike_29 : decode cX0_mostLike 29 = .ok (.iload_n 1, 1) := by decide +kernel
theorem dX0_mostLike_30 : decode cX0_mostLike 30 = .ok (.if_icmp .ge 47, 3) := by decide +kernel
theorem dX0_mostLike_33 : decode cX0_mostLike 33 = .ok (.iload 5, 2) := by decide +kernel
theorem dX0_mostLike_35 : decode cX0_mostLike 35 = .ok (.aload_n 0, 1) := by decide +kernel
theorem dX0_mostLike_36 : decode cX0_mostLike 36 = .ok (.getfield 9, 3) := by decide +kernel
theorem dX0_mostLike_39 : decode cX0_mostLike 39 = .ok (.iload 4, 2) := by decide +kernel
theorem dX0_mostLike_41 : decode cX0_mostLike 41 = .ok (.iload 6, 2) := by decide +kernel
theorem dX0_mostLike_43 : decode cX0_mostLike 43 = .ok (.isub, 1) := by decide +kernel
theorem dX0_mostLike_44 : decode cX0_mostLike 44 = .ok (.invokevirtual 74, 3) := by decide +kernel
theorem dX0_mostLike_47 : decode cX0_mostLike 47 = .ok (.aload_n 0, 1) := by decide +kernel
theorem dX0_mostLike_48 : decode cX0_mostLike 48 = .ok (.getfield 9, 3) := by decide +kernel
theorem dX0_mostLike_51 : decode cX0_mostLike 51 = .ok (.aload_n 0, 1) := by decide +kernel
theorem dX0_mostLike_52 : decode cX0_mostLike 52 = .ok (.getfield 9, 3) := by decide +kernel
theorem dX0_mostLike_55 : decode cX0_mostLike 55 = .ok (.getfield 15, 3) := by decide +kernel
theorem dX0_mostLike_58 : decode cX0_mostLike 58 = .ok (.iload 6, 2) := by decide +kernel
theorem dX0_mostLike_60 : decode cX0_mostLike 60 = .ok (.isub, 1) := by decide +kernel
theorem dX0_mostLike_61 : decode cX0_mostLike 61 = .ok (.invokevirtual 74, 3) := by decide +kernel
theorem dX0_mostLike_64 : decode cX0_mostLike 64 = .ok (.isub, 1) := by decide +kernel
theorem dX0_mostLike_65 : decode cX0_mostLike 65 = .ok (.invokestatic 49, 3) := by decide +kernel
theorem dX0_mostLike_68 : decode cX0_mostLike 68 = .ok (.iadd, 1) := by decide +kernel
theorem dX0_mostLike_69 : decode cX0_mostLike 69 = .ok (.istore 5, 2) := by decide +kernel
theorem dX0_mostLike_71 : decode cX0_mostLike 71 = .ok (.iinc 6 1, 3) := by decide +kernel
theorem dX0_mostLike_74 : decode cX0_mostLike 74 = .ok (.goto (-47), 3) := by decide +kernel
theorem dX0_mostLike_77 : decode cX0_mostLike 77 = .ok (.iload_n 2, 1) := by decide +kernel
theorem dX0_mostLike_78 : decode cX0_mostLike 78 = .ok (.iconst (-1), 1) := by decide +kernel
theorem dX0_mostLike_79 : decode cX0_mostLike 79 = .ok (.if_icmp .eq 9, 3) := by decide +kernel
theorem dX0_mostLike_82 : decode cX0_mostLike 82 = .ok (.iload 5, 2) := by decide +kernel
theorem dX0_mostLike_84 : decode cX0_mostLike 84 = .ok (.iload_n 3, 1) := by decide +kernel
theorem dX0_mostLike_85 : decode cX0_mostLike 85 = .ok (.if_icmp .gt 9, 3) := by decide +kernel
theorem dX0_mostLike_88 : decode cX0_mostLike 88 = .ok (.iload 4, 2) := by decide +kernel
theorem dX0_mostLike_90 : decode cX0_mostLike 90 = .ok (.istore_n 2, 1) := by decide +kernel
theorem dX0_mostLike_91 : decode cX0_mostLike 91 = .ok (.iload 5, 2) := by decide +kernel
theorem dX0_mostLike_93 : decode cX0_mostLike 93 = .ok (.istore_n 3, 1) := by decide +kernel
theorem dX0_mostLike_94 : decode cX0_mostLike 94 = .ok (.iinc 4 1, 3) := by decide +kernel
theorem dX0_mostLike_97 : decode cX0_mostLike 97 = .ok (.goto (-88), 3) := by decide +kernel
theorem dX0_mostLike_100 : decode cX0_mostLike 100 = .ok (.iload_n 2, 1) := by decide +kernel
theorem dX0_mostLike_101 : decode cX0_mostLike 101 = .ok (.ireturn, 1) := by decide +kernel
theorem dX0_visitsOf_0 : decode cX0_visitsOf 0 = .ok (.iconst 0, 1) := by decide +kernel
theorem dX0_visitsOf_1 : decode cX0_visitsOf 1 = .ok (.istore_n 3, 1) := by decide +kernel
theorem dX0_visitsOf_2 : decode cX0_visitsOf 2 = .ok (.iconst 0, 1) := by decide +kernel
theorem dX0_visitsOf_3 : decode cX0_visitsOf 3 = .ok (.istore 4, 2) := by decide +kernel
theorem dX0_visitsOf_5 : decode cX0_visitsOf 5 = .ok (.iconst 0, 1) := by decide +kernel
theorem dX0_visitsOf_6 : decode cX0_visitsOf 6 = .ok (.istore 5, 2) := by decide +kernel
theorem dX0_visitsOf_8 : decode cX0_visitsOf 8 = .ok (.iconst (-1), 1) := by decide +kernel
theorem dX0_visitsOf_9 : decode cX0_visitsOf 9 = .ok (.istore 6, 2) := by decide +kernel
theorem dX0_visitsOf_11 : decode cX0_visitsOf 11 = .ok (.iconst 0, 1) := by decide +kernel
theorem dX0_visitsOf_12 : decode cX0_visitsOf 12 = .ok (.istore 7, 2) := by decide +kernel
theorem dX0_visitsOf_14 : decode cX0_visitsOf 14 = .ok (.iload 7, 2) := by decide +kernel
theorem dX0_visitsOf_16 : decode cX0_visitsOf 16 = .ok (.aload_n 0, 1) := by decide +kernel
theorem dX0_visitsOf_17 : decode cX0_visitsOf 17 = .ok (.getfield 9, 3) := by decide +kernel
theorem dX0_visitsOf_20 : decode cX0_visitsOf 20 = .ok (.getfield 15, 3) := by decide +kernel
theorem dX0_visitsOf_23 : decode cX0_visitsOf 23 = .ok (.if_icmp .gt 80, 3) := by decide +kernel
theorem dX0_visitsOf_26 : decode cX0_visitsOf 26 = .ok (.aload_n 0, 1) := by decide +kernel
theorem dX0_visitsOf_27 : decode cX0_visitsOf 27 = .ok (.getfield 9, 3) := by decide +kernel
theorem dX0_visitsOf_30 : decode cX0_visitsOf 30 = .ok (.iload 7, 2) := by decide +kernel
theorem dX0_visitsOf_32 : decode cX0_visitsOf 32 = .ok (.invokevirtual 74, 3) := by decide +kernel
theorem dX0_visitsOf_35 : decode cX0_visitsOf 35 = .ok (.bipush 100, 2) := by decide +kernel
theorem dX0_visitsOf_37 : decode cX0_visitsOf 37 = .ok (.iload_n 1, 1) := by decide +kernel
theorem dX0_visitsOf_38 : decode cX0_visitsOf 38 = .ok (.imul, 1) := by decide +kernel
theorem dX0_visitsOf_39 : decode cX0_visitsOf 39 = .ok (.isub, 1) := by decide +kernel
theorem dX0_visitsOf_40 : decode cX0_visitsOf 40 = .ok (.invokestatic 49, 3) := by decide +kernel
theorem dX0_visitsOf_43 : decode cX0_visitsOf 43 = .ok (.bipush 100, 2) := by decide +kernel
theorem dX0_visitsOf_45 : decode cX0_visitsOf 45 = .ok (.if_icmp .ge 52, 3) := by decide +kernel
theorem dX0_visitsOf_48 : decode cX0_visitsOf 48 = .ok (.iinc 3 1, 3) := by decide +kernel
theorem dX0_visitsOf_51 : decode cX0_visitsOf 51 = .ok (.iload 6, 2) := by decide +kernel
theorem dX0_visitsOf_53 : decode cX0_visitsOf 53 = .ok (.iconst (-1), 1) := by decide +kernel
theorem dX0_visitsOf_54 : decode cX0_visitsOf 54 = .ok (.if_icmp .eq 12, 3) := by decide +kernel
theorem dX0_visitsOf_57 : decode cX0_visitsOf 57 = .ok (.iload 6, 2) := by decide +kernel
theorem dX0_visitsOf_59 : decode cX0_visitsOf 59 = .ok (.iload 7, 2) := by decide +kernel
theorem dX0_visitsOf_61 : decode cX0_visitsOf 61 = .ok (.iconst 1, 1) := by decide +kernel
theorem dX0_visitsOf_62 : decode cX0_visitsOf 62 = .ok (.isub, 1) := by decide +kernel
theorem dX0_visitsOf_63 : decode cX0_visitsOf 63 = .ok (.if_icmp .ge 30, 3) := by decide +kernel
theorem dX0_visitsOf_66 : decode cX0_visitsOf 66 = .ok (.iinc 4 1, 3) := by decide +kernel
theorem dX0_visitsOf_69 : decode cX0_visitsOf 69 = .ok (.iload 6, 2) := by decide +kernel
theorem dX0_visitsOf_71 : decode cX0_visitsOf 71 = .ok (.iconst (-1), 1) := by decide +kernel
theorem dX0_visitsOf_72 : decode cX0_visitsOf 72 = .ok (.if_icmp .ne 7, 3) := by decide +kernel
theorem dX0_visitsOf_75 : decode cX0_visitsOf 75 = .ok (.iconst 0, 1) := by decide +kernel
theorem dX0_visitsOf_76 : decode cX0_visitsOf 76 = .ok (.goto 15, 3) := by decide +kernel
theorem dX0_visitsOf_79 : decode cX0_visitsOf 79 = .ok (.iload 5, 2) := by decide +kernel
theorem dX0_visitsOf_81 : decode cX0_visitsOf 81 = .ok (.iload 7, 2) := by decide +kernel
theorem dX0_visitsOf_83 : decode cX0_visitsOf 83 = .ok (.iconst 1, 1) := by decide +kernel
theorem dX0_visitsOf_84 : decode cX0_visitsOf 84 = .ok (.isub, 1) := by decide +kernel
theorem dX0_visitsOf_85 : decode cX0_visitsOf 85 = .ok (.iload 6, 2) := by decide +kernel
theorem dX0_visitsOf_87 : decode cX0_visitsOf 87 = .ok (.isub, 1) := by decide +kernel
theorem dX0_visitsOf_88 : decode cX0_visitsOf 88 = .ok (.invokestatic 77, 3) := by decide +kernel
theorem dX0_visitsOf_91 : decode cX0_visitsOf 91 = .ok (.istore 5, 2) := by decide +kernel
theorem dX0_visitsOf_93 : decode cX0_visitsOf 93 = .ok (.iload 7, 2) := by decide +kernel
theorem dX0_visitsOf_95 : decode cX0_visitsOf 95 = .ok (.istore 6, 2) := by decide +kernel
theorem dX0_visitsOf_97 : decode cX0_visitsOf 97 = .ok (.iinc 7 1, 3) := by decide +kernel
theorem dX0_visitsOf_100 : decode cX0_visitsOf 100 = .ok (.goto (-86), 3) := by decide +kernel
theorem dX0_visitsOf_103 : decode cX0_visitsOf 103 = .ok (.iload_n 2, 1) := by decide +kernel
theorem dX0_visitsOf_104 : decode cX0_visitsOf 104 = .ok (.ifCond .ne 7, 3) := by decide +kernel
theorem dX0_visitsOf_107 : decode cX0_visitsOf 107 = .ok (.iload_n 3, 1) := by decide +kernel
theorem dX0_visitsOf_108 : decode cX0_visitsOf 108 = .ok (.goto 15, 3) := by decide +kernel
theorem dX0_visitsOf_111 : decode cX0_visitsOf 111 = .ok (.iload_n 2, 1) := by decide +kernel
theorem dX0_visitsOf_112 : decode cX0_visitsOf 112 = .ok (.iconst 1, 1) := by decide +kernel
theorem dX0_visitsOf_113 : decode cX0_visitsOf 113 = .ok (.if_icmp .ne 8, 3) := by decide +kernel
theorem dX0_visitsOf_116 : decode cX0_visitsOf 116 = .ok (.iload 4, 2) := by decide +kernel
theorem dX0_visitsOf_118 : decode cX0_visitsOf 118 = .ok (.goto 5, 3) := by decide +kernel
theorem dX0_visitsOf_121 : decode cX0_visitsOf 121 = .ok (.iload 5, 2) := by decide +kernel
theorem dX0_visitsOf_123 : decode cX0_visitsOf 123 = .ok (.ireturn, 1) := by decide +kernel
theorem dX0_farFromLine_0 : decode cX0_farFromLine 0 = .ok (.iconst 0, 1) := by decide +kernel
theorem dX0_farFromLine_1 : decode cX0_farFromLine 1 = .ok (.istore 4, 2) := by decide +kernel
theorem dX0_farFromLine_3 : decode cX0_farFromLine 3 = .ok (.iconst 0, 1) := by decide +kernel
theorem dX0_farFromLine_4 : decode cX0_farFromLine 4 = .ok (.istore 5, 2) := by decide +kernel
theorem dX0_farFromLine_6 : decode cX0_farFromLine 6 = .ok (.aload_n 0, 1) := by decide +kernel
theorem dX0_farFromLine_7 : decode cX0_farFromLine 7 = .ok (.getfield 9, 3) := by decide +kernel
theorem dX0_farFromLine_10 : decode cX0_farFromLine 10 = .ok (.aload_n 0, 1) := by decide +kernel
theorem dX0_farFromLine_11 : decode cX0_farFromLine 11 = .ok (.getfield 9, 3) := by decide +kernel
theorem dX0_farFromLine_14 : decode cX0_farFromLine 14 = .ok (.getfield 15, 3) := by decide +kernel
theorem dX0_farFromLine_17 : decode cX0_farFromLine 17 = .ok (.invokevirtual 74, 3) := by decide +kernel
theorem dX0_farFromLine_20 : decode cX0_farFromLine 20 = .ok (.istore 6, 2) := by decide +kernel
theorem dX0_farFromLine_22 : decode cX0_farFromLine 22 = .ok (.iconst 0, 1) := by decide +kernel
theorem dX0_farFromLine_23 : decode cX0_farFromLine 23 = .ok (.istore 7, 2) := by decide +kernel
theorem dX0_farFromLine_25 : decode cX0_farFromLine 25 = .ok (.iload 7, 2) := by decide +kernel
theorem dX0_farFromLine_27 : decode cX0_farFromLine 27 = .ok (.aload_n 0, 1) := by decide +kernel
theorem dX0_farFromLine_28 : decode cX0_farFromLine 28 = .ok (.getfield 9, 3) := by decide +kernel
theorem dX0_farFromLine_31 : decode cX0_farFromLine 31 = .ok (.getfield 55, 3) := by decide +kernel
theorem dX0_farFromLine_34 : decode cX0_farFromLine 34 = .ok (.getfield 59, 3) := by decide +kernel
theorem dX0_farFromLine_37 : decode cX0_farFromLine 37 = .ok (.if_icmp .ge 75, 3) := by decide +kernel
theorem dX0_farFromLine_40 : decode cX0_farFromLine 40 = .ok (.aload_n 0, 1) := by decide +kernel
theorem dX0_farFromLine_41 : decode cX0_farFromLine 41 = .ok (.getfield 9, 3) := by decide +kernel
theorem dX0_farFromLine_44 : decode cX0_farFromLine 44 = .ok (.getfield 55, 3) := by decide +kernel
theorem dX0_farFromLine_47 : decode cX0_farFromLine 47 = .ok (.getfield 80, 3) := by decide +kernel
theorem dX0_farFromLine_50 : decode cX0_farFromLine 50 = .ok (.iload 7, 2) := by decide +kernel
theorem dX0_farFromLine_52 : decode cX0_farFromLine 52 = .ok (.iaload, 1) := by decide +kernel
theorem dX0_farFromLine_53 : decode cX0_farFromLine 53 = .ok (.iload_n 1, 1) := by decide +kernel
theorem dX0_farFromLine_54 : decode cX0_farFromLine 54 = .ok (.if_icmp .le 7, 3) := by decide +kernel
theorem dX0_farFromLine_57 : decode cX0_farFromLine 57 = .ok (.iconst 1, 1) := by decide +kernel
theorem dX0_farFromLine_58 : decode cX0_farFromLine 58 = .ok (.goto 4, 3) := by decide +kernel
theorem dX0_farFromLine_61 : decode cX0_farFromLine 61 = .ok (.iconst 0, 1) := by decide +kernel
theorem dX0_farFromLine_62 : decode cX0_farFromLine 62 = .ok (.istore 8, 2) := by decide +kernel
theorem dX0_farFromLine_64 : decode cX0_farFromLine 64 = .ok (.iload 8, 2) := by decide +kernel
theorem dX0_farFromLine_66 : decode cX0_farFromLine 66 = .ok (.iload_n 2, 1) := by decide +kernel
theorem dX0_farFromLine_67 : decode cX0_farFromLine 67 = .ok (.if_icmp .ne 39, 3) := by decide +kernel
theorem dX0_farFromLine_70 : decode cX0_farFromLine 70 = .ok (.iload 4, 2) := by decide +kernel
theorem dX0_farFromLine_72 : decode cX0_farFromLine 72 = .ok (.bipush 100, 2) := by decide +kernel
theorem dX0_farFromLine_74 : decode cX0_farFromLine 74 = .ok (.aload_n 0, 1) := by decide +kernel
theorem dX0_farFromLine_75 : decode cX0_farFromLine 75 = .ok (.getfield 9, 3) := by decide +kernel
theorem dX0_farFromLine_78 : decode cX0_farFromLine 78 = .ok (.getfield 21, 3) := by decide +kernel
theorem dX0_farFromLine_81 : decode cX0_farFromLine 81 = .ok (.iload 7, 2) := by decide +kernel
theorem dX0_farFromLine_83 : decode cX0_farFromLine 83 = .ok (.aload_n 0, 1) := by decide +kernel
theorem dX0_farFromLine_84 : decode cX0_farFromLine 84 = .ok (.getfield 9, 3) := by decide +kernel
theorem dX0_farFromLine_87 : decode cX0_farFromLine 87 = .ok (.getfield 15, 3) := by decide +kernel
theorem dX0_farFromLine_90 : decode cX0_farFromLine 90 = .ok (.invokevirtual 25, 3) := by decide +kernel
theorem dX0_farFromLine_93 : decode cX0_farFromLine 93 = .ok (.imul, 1) := by decide +kernel
theorem dX0_farFromLine_94 : decode cX0_farFromLine 94 = .ok (.iload 6, 2) := by decide +kernel
theorem dX0_farFromLine_96 : decode cX0_farFromLine 96 = .ok (.isub, 1) := by decide +kernel
theorem dX0_farFromLine_97 : decode cX0_farFromLine 97 = .ok (.invokestatic 49, 3) := by decide +kernel
theorem dX0_farFromLine_100 : decode cX0_farFromLine 100 = .ok (.iadd, 1) := by decide +kernel
theorem dX0_farFromLine_101 : decode cX0_farFromLine 101 = .ok (.istore 4, 2) := by decide +kernel
theorem dX0_farFromLine_103 : decode cX0_farFromLine 103 = .ok (.iinc 5 1, 3) := by decide +kernel
theorem dX0_farFromLine_106 : decode cX0_farFromLine 106 = .ok (.iinc 7 1, 3) := by decide +kernel
theorem dX0_farFromLine_109 : decode cX0_farFromLine 109 = .ok (.goto (-84), 3) := by decide +kernel
theorem dX0_farFromLine_112 : decode cX0_farFromLine 112 = .ok (.iload_n 3, 1) := by decide +kernel
theorem dX0_farFromLine_113 : decode cX0_farFromLine 113 = .ok (.ifCond .eq 8, 3) := by decide +kernel
theorem dX0_farFromLine_116 : decode cX0_farFromLine 116 = .ok (.iload 5, 2) := by decide +kernel
theorem dX0_farFromLine_118 : decode cX0_farFromLine 118 = .ok (.goto 5, 3) := by decide +kernel
theorem dX0_farFromLine_121 : decode cX0_farFromLine 121 = .ok (.iload 4, 2) := by decide +kernel
theorem dX0_farFromLine_123 : decode cX0_farFromLine 123 = .ok (.ireturn, 1) := by decide +kernel
theorem dX0_offOf_0 : decode cX0_offOf 0 = .ok (.aload_n 1, 1) := by decide +kernel
theorem dX0_offOf_1 : decode cX0_offOf 1 = .ok (.ifnonnull 5, 3) := by decide +kernel
theorem dX0_offOf_4 : decode cX0_offOf 4 = .ok (.iconst (-1), 1) := by decide +kernel
theorem dX0_offOf_5 : decode cX0_offOf 5 = .ok (.ireturn, 1) := by decide +kernel
theorem dX0_offOf_6 : decode cX0_offOf 6 = .ok (.iconst 0, 1) := by decide +kernel
theorem dX0_offOf_7 : decode cX0_offOf 7 = .ok (.istore_n 2, 1) := by decide +kernel
theorem dX0_offOf_8 : decode cX0_offOf 8 = .ok (.iconst 1, 1) := by decide +kernel
theorem dX0_offOf_9 : decode cX0_offOf 9 = .ok (.aload_n 0, 1) := by decide +kernel
theorem dX0_offOf_10 : decode cX0_offOf 10 = .ok (.getfield 9, 3) := by decide +kernel
theorem dX0_offOf_13 : decode cX0_offOf 13 = .ok (.getfield 15, 3) := by decide +kernel
theorem dX0_offOf_16 : decode cX0_offOf 16 = .ok (.bipush 20, 2) := by decide +kernel
theorem dX0_offOf_18 : decode cX0_offOf 18 = .ok (.isub, 1) := by decide +kernel
theorem dX0_offOf_19 : decode cX0_offOf 19 = .ok (.iconst 1, 1) := by decide +kernel
theorem dX0_offOf_20 : decode cX0_offOf 20 = .ok (.iadd, 1) := by decide +kernel
theorem dX0_offOf_21 : decode cX0_offOf 21 = .ok (.invokestatic 77, 3) := by decide +kernel
theorem dX0_offOf_24 : decode cX0_offOf 24 = .ok (.istore_n 3, 1) := by decide +kernel
theorem dX0_offOf_25 : decode cX0_offOf 25 = .ok (.iload_n 3, 1) := by decide +kernel
theorem dX0_offOf_26 : decode cX0_offOf 26 = .ok (.aload_n 0, 1) := by decide +kernel
theorem dX0_offOf_27 : decode cX0_offOf 27 = .ok (.getfield 9, 3) := by decide +kernel
theorem dX0_offOf_30 : decode cX0_offOf 30 = .ok (.getfield 15, 3) := by decide +kernel
theorem dX0_offOf_33 : decode cX0_offOf 33 = .ok (.if_icmp .gt 99, 3) := by decide +kernel
theorem dX0_offOf_36 : decode cX0_offOf 36 = .ok (.iconst 0, 1) := by decide +kernel
theorem dX0_offOf_37 : decode cX0_offOf 37 = .ok (.istore 4, 2) := by decide +kernel
theorem dX0_offOf_39 : decode cX0_offOf 39 = .ok (.iload 4, 2) := by decide +kernel
theorem dX0_offOf_41 : decode cX0_offOf 41 = .ok (.aload_n 0, 1) := by decide +kernel
theorem dX0_offOf_42 : decode cX0_offOf 42 = .ok (.getfield 9, 3) := by decide +kernel
theorem dX0_offOf_45 : decode cX0_offOf 45 = .ok (.getfield 55, 3) := by decide +kernel
theorem dX0_offOf_48 : decode cX0_offOf 48 = .ok (.getfield 59, 3) := by decide +kernel
theorem dX0_offOf_51 : decode cX0_offOf 51 = .ok (.if_icmp .ge 75, 3) := by decide +kernel
theorem dX0_offOf_54 : decode cX0_offOf 54 = .ok (.aload_n 0, 1) := by decide +kernel
theorem dX0_offOf_55 : decode cX0_offOf 55 = .ok (.getfield 9, 3) := by decide +kernel
theorem dX0_offOf_58 : decode cX0_offOf 58 = .ok (.getfield 21, 3) := by decide +kernel
theorem dX0_offOf_61 : decode cX0_offOf 61 = .ok (.astore 5, 2) := by decide +kernel
theorem dX0_offOf_63 : decode cX0_offOf 63 = .ok (.aload_n 0, 1) := by decide +kernel
theorem dX0_offOf_64 : decode cX0_offOf 64 = .ok (.getfield 9, 3) := by decide +kernel
theorem dX0_offOf_67 : decode cX0_offOf 67 = .ok (.getfield 35, 3) := by decide +kernel
theorem dX0_offOf_70 : decode cX0_offOf 70 = .ok (.aload_n 1, 1) := by decide +kernel
theorem dX0_offOf_71 : decode cX0_offOf 71 = .ok (.iload 4, 2) := by decide +kernel
theorem dX0_offOf_73 : decode cX0_offOf 73 = .ok (.iload_n 3, 1) := by decide +kernel
theorem dX0_offOf_74 : decode cX0_offOf 74 = .ok (.aload 5, 2) := by decide +kernel
theorem dX0_offOf_76 : decode cX0_offOf 76 = .ok (.iload 4, 2) := by decide +kernel
theorem dX0_offOf_78 : decode cX0_offOf 78 = .ok (.iload_n 3, 1) := by decide +kernel
theorem dX0_offOf_79 : decode cX0_offOf 79 = .ok (.invokevirtual 83, 3) := by decide +kernel
theorem dX0_offOf_82 : decode cX0_offOf 82 = .ok (.aload 5, 2) := by decide +kernel
theorem dX0_offOf_84 : decode cX0_offOf 84 = .ok (.iload 4, 2) := by decide +kernel
theorem dX0_offOf_86 : decode cX0_offOf 86 = .ok (.iload_n 3, 1) := by decide +kernel
theorem dX0_offOf_87 : decode cX0_offOf 87 = .ok (.invokevirtual 86, 3) := by decide +kernel
theorem dX0_offOf_90 : decode cX0_offOf 90 = .ok (.aload 5, 2) := by decide +kernel
theorem dX0_offOf_92 : decode cX0_offOf 92 = .ok (.iload 4, 2) := by decide +kernel
theorem dX0_offOf_94 : decode cX0_offOf 94 = .ok (.iload_n 3, 1) := by decide +kernel
theorem dX0_offOf_95 : decode cX0_offOf 95 = .ok (.invokevirtual 89, 3) := by decide +kernel
theorem dX0_offOf_98 : decode cX0_offOf 98 = .ok (.invokevirtual 92, 3) := by decide +kernel
theorem dX0_offOf_101 : decode cX0_offOf 101 = .ok (.istore 6, 2) := by decide +kernel
theorem dX0_offOf_103 : decode cX0_offOf 103 = .ok (.iload_n 2, 1) := by decide +kernel
theorem dX0_offOf_104 : decode cX0_offOf 104 = .ok (.iload 6, 2) := by decide +kernel
theorem dX0_offOf_106 : decode cX0_offOf 106 = .ok (.aload 5, 2) := by decide +kernel
theorem dX0_offOf_108 : decode cX0_offOf 108 = .ok (.iload 4, 2) := by decide +kernel
theorem dX0_offOf_110 : decode cX0_offOf 110 = .ok (.iload_n 3, 1) := by decide +kernel
theorem dX0_offOf_111 : decode cX0_offOf 111 = .ok (.invokevirtual 25, 3) := by decide +kernel
theorem dX0_offOf_114 : decode cX0_offOf 114 = .ok (.isub, 1) := by decide +kernel
theorem dX0_offOf_115 : decode cX0_offOf 115 = .ok (.invokestatic 49, 3) := by decide +kernel
theorem dX0_offOf_118 : decode cX0_offOf 118 = .ok (.iadd, 1) := by decide +kernel
theorem dX0_offOf_119 : decode cX0_offOf 119 = .ok (.istore_n 2, 1) := by decide +kernel
theorem dX0_offOf_120 : decode cX0_offOf 120 = .ok (.iinc 4 1, 3) := by decide +kernel
theorem dX0_offOf_123 : decode cX0_offOf 123 = .ok (.goto (-84), 3) := by decide +kernel
theorem dX0_offOf_126 : decode cX0_offOf 126 = .ok (.iinc 3 1, 3) := by decide +kernel
theorem dX0_offOf_129 : decode cX0_offOf 129 = .ok (.goto (-104), 3) := by decide +kernel
theorem dX0_offOf_132 : decode cX0_offOf 132 = .ok (.iload_n 2, 1) := by decide +kernel
theorem dX0_offOf_133 : decode cX0_offOf 133 = .ok (.ireturn, 1) := by decide +kernel
theorem dX1_init_0 : decode cX1_init 0 = .ok (.aload_n 0, 1) := by decide +kernel
theorem dX1_init_1 : decode cX1_init 1 = .ok (.invokespecial 1, 3) := by decide +kernel
theorem dX1_init_4 : decode cX1_init 4 = .ok (.aload_n 0, 1) := by decide +kernel
theorem dX1_init_5 : decode cX1_init 5 = .ok (.aload_n 1, 1) := by decide +kernel
theorem dX1_init_6 : decode cX1_init 6 = .ok (.putfield 7, 3) := by decide +kernel
theorem dX1_init_9 : decode cX1_init 9 = .ok (.aload_n 0, 1) := by decide +kernel
theorem dX1_init_10 : decode cX1_init 10 = .ok (.iload_n 2, 1) := by decide +kernel
theorem dX1_init_11 : decode cX1_init 11 = .ok (.putfield 13, 3) := by decide +kernel
theorem dX1_init_14 : decode cX1_init 14 = .ok (.return_, 1) := by decide +kernel
theorem dX1_head_0 : decode cX1_head 0 = .ok (.iload_n 0, 1) := by decide +kernel
theorem dX1_head_1 : decode cX1_head 1 = .ok (.iload_n 1, 1) := by decide +kernel
theorem dX1_head_2 : decode cX1_head 2 = .ok (.iconst 2, 1) := by decide +kernel
theorem dX1_head_3 : decode cX1_head 3 = .ok (.ishl, 1) := by decide +kernel
theorem dX1_head_4 : decode cX1_head 4 = .ok (.ior, 1) := by decide +kernel
theorem dX1_head_5 : decode cX1_head 5 = .ok (.iload_n 3, 1) := by decide +kernel
theorem dX1_head_6 : decode cX1_head 6 = .ok (.iconst 5, 1) := by decide +kernel
theorem dX1_head_7 : decode cX1_head 7 = .ok (.ishl, 1) := by decide +kernel
theorem dX1_head_8 : decode cX1_head 8 = .ok (.ior, 1) := by decide +kernel
theorem dX1_head_9 : decode cX1_head 9 = .ok (.iload_n 2, 1) := by decide +kernel
theorem dX1_head_10 : decode cX1_head 10 = .ok (.bipush 11, 2) := by decide +kernel
theorem dX1_head_12 : decode cX1_head 12 = .ok (.ishl, 1) := by decide +kernel
theorem dX1_head_13 : decode cX1_head 13 = .ok (.ior, 1) := by decide +kernel
theorem dX1_head_14 : decode cX1_head 14 = .ok (.ireturn, 1) := by decide +kernel
theorem dX1_verbOf_0 : decode cX1_verbOf 0 = .ok (.iload_n 0, 1) := by decide +kernel
theorem dX1_verbOf_1 : decode cX1_verbOf 1 = .ok (.iconst 3, 1) := by decide +kernel
theorem dX1_verbOf_2 : decode cX1_verbOf 2 = .ok (.iand, 1) := by decide +kernel
theorem dX1_verbOf_3 : decode cX1_verbOf 3 = .ok (.ireturn, 1) := by decide +kernel
theorem dX1_whomOf_0 : decode cX1_whomOf 0 = .ok (.iload_n 0, 1) := by decide +kernel
theorem dX1_whomOf_1 : decode cX1_whomOf 1 = .ok (.iconst 2, 1) := by decide +kernel
theorem dX1_whomOf_2 : decode cX1_whomOf 2 = .ok (.ishr, 1) := by decide +kernel
theorem dX1_whomOf_3 : decode cX1_whomOf 3 = .ok (.bipush 7, 2) := by decide +kernel
theorem dX1_whomOf_5 : decode cX1_whomOf 5 = .ok (.iand, 1) := by decide +kernel
theorem dX1_whomOf_6 : decode cX1_whomOf 6 = .ok (.ireturn, 1) := by decide +kernel
theorem dX1_byOf_0 : decode cX1_byOf 0 = .ok (.iload_n 0, 1) := by decide +kernel
theorem dX1_byOf_1 : decode cX1_byOf 1 = .ok (.iconst 5, 1) := by decide +kernel
theorem dX1_byOf_2 : decode cX1_byOf 2 = .ok (.ishr, 1) := by decide +kernel
theorem dX1_byOf_3 : decode cX1_byOf 3 = .ok (.bipush 63, 2) := by decide +kernel
theorem dX1_byOf_5 : decode cX1_byOf 5 = .ok (.iand, 1) := by decide +kernel
theorem dX1_byOf_6 : decode cX1_byOf 6 = .ok (.ireturn, 1) := by decide +kernel
theorem dX1_numberOf_0 : decode cX1_numberOf 0 = .ok (.iload_n 0, 1) := by decide +kernel
theorem dX1_numberOf_1 : decode cX1_numberOf 1 = .ok (.bipush 11, 2) := by decide +kernel
theorem dX1_numberOf_3 : decode cX1_numberOf 3 = .ok (.ishr, 1) := by decide +kernel
theorem dX1_numberOf_4 : decode cX1_numberOf 4 = .ok (.ireturn, 1) := by decide +kernel
theorem dX1_comparison_0 : decode cX1_comparison 0 = .ok (.iload_n 2, 1) := by decide +kernel
theorem dX1_comparison_1 : decode cX1_comparison 1 = .ok (.bipush 11, 2) := by decide +kernel
theorem dX1_comparison_3 : decode cX1_comparison 3 = .ok (.ishl, 1) := by decide +kernel
theorem dX1_comparison_4 : decode cX1_comparison 4 = .ok (.iload_n 1, 1) := by decide +kernel
theorem dX1_comparison_5 : decode cX1_comparison 5 = .ok (.iconst 4, 1) := by decide +kernel
theorem dX1_comparison_6 : decode cX1_comparison 6 = .ok (.ishl, 1) := by decide +kernel
theorem dX1_comparison_7 : decode cX1_comparison 7 = .ok (.ior, 1) := by decide +kernel
theorem dX1_comparison_8 : decode cX1_comparison 8 = .ok (.iload_n 0, 1) := by decide +kernel
theorem dX1_comparison_9 : decode cX1_comparison 9 = .ok (.ior, 1) := by decide +kernel
theorem dX1_comparison_10 : decode cX1_comparison 10 = .ok (.ireturn, 1) := by decide +kernel
theorem dX1_wordOf_0 : decode cX1_wordOf 0 = .ok (.iload_n 0, 1) := by decide +kernel
theorem dX1_wordOf_1 : decode cX1_wordOf 1 = .ok (.bipush 15, 2) := by decide +kernel
theorem dX1_wordOf_3 : decode cX1_wordOf 3 = .ok (.iand, 1) := by decide +kernel
theorem dX1_wordOf_4 : decode cX1_wordOf 4 = .ok (.ireturn, 1) := by decide +kernel
theorem dX1_compares_0 : decode cX1_compares 0 = .ok (.iload_n 0, 1) := by decide +kernel
theorem dX1_compares_1 : decode cX1_compares 1 = .ok (.iconst 4, 1) := by decide +kernel
theorem dX1_compares_2 : decode cX1_compares 2 = .ok (.ishr, 1) := by decide +kernel
theorem dX1_compares_3 : decode cX1_compares 3 = .ok (.bipush 127, 2) := by decide +kernel
theorem dX1_compares_5 : decode cX1_compares 5 = .ok (.iand, 1) := by decide +kernel
theorem dX1_compares_6 : decode cX1_compares 6 = .ok (.istore_n 2, 1) := by decide +kernel
theorem dX1_compares_7 : decode cX1_compares 7 = .ok (.iload_n 0, 1) := by decide +kernel
theorem dX1_compares_8 : decode cX1_compares 8 = .ok (.bipush 11, 2) := by decide +kernel
theorem dX1_compares_10 : decode cX1_compares 10 = .ok (.ishr, 1) := by decide +kernel
theorem dX1_compares_11 : decode cX1_compares 11 = .ok (.istore_n 3, 1) := by decide +kernel
theorem dX1_compares_12 : decode cX1_compares 12 = .ok (.iload_n 2, 1) := by decide +kernel
theorem dX1_compares_13 : decode cX1_compares 13 = .ok (.bipush 60, 2) := by decide +kernel
theorem dX1_compares_15 : decode cX1_compares 15 = .ok (.if_icmp .ne 14, 3) := by decide +kernel
theorem dX1_compares_18 : decode cX1_compares 18 = .ok (.iload_n 1, 1) := by decide +kernel
theorem dX1_compares_19 : decode cX1_compares 19 = .ok (.iload_n 3, 1) := by decide +kernel
theorem dX1_compares_20 : decode cX1_compares 20 = .ok (.if_icmp .ge 7, 3) := by decide +kernel
theorem dX1_compares_23 : decode cX1_compares 23 = .ok (.iconst 1, 1) := by decide +kernel
theorem dX1_compares_24 : decode cX1_compares 24 = .ok (.goto 4, 3) := by decide +kernel
theorem dX1_compares_27 : decode cX1_compares 27 = .ok (.iconst 0, 1) := by decide +kernel
theorem dX1_compares_28 : decode cX1_compares 28 = .ok (.ireturn, 1) := by decide +kernel
theorem dX1_compares_29 : decode cX1_compares 29 = .ok (.iload_n 2, 1) := by decide +kernel
theorem dX1_compares_30 : decode cX1_compares 30 = .ok (.bipush 62, 2) := by decide +kernel
theorem dX1_compares_32 : decode cX1_compares 32 = .ok (.if_icmp .ne 16, 3) := by decide +kernel
theorem dX1_compares_35 : decode cX1_compares 35 = .ok (.iload_n 1, 1) := by decide +kernel
theorem dX1_compares_36 : decode cX1_compares 36 = .ok (.iload_n 3, 1) := by decide +kernel
theorem dX1_compares_37 : decode cX1_compares 37 = .ok (.if_icmp .le 7, 3) := by decide +kernel
theorem dX1_compares_40 : decode cX1_compares 40 = .ok (.iconst 1, 1) := by decide +kernel
theorem dX1_compares_41 : decode cX1_compares 41 = .ok (.goto 17, 3) := by decide +kernel
theorem dX1_compares_44 : decode cX1_compares 44 = .ok (.iconst 0, 1) := by decide +kernel
theorem dX1_compares_45 : decode cX1_compares 45 = .ok (.goto 13, 3) := by decide +kernel
theorem dX1_compares_48 : decode cX1_compares 48 = .ok (.iload_n 1, 1) := by decide +kernel
theorem dX1_compares_49 : decode cX1_compares 49 = .ok (.iload_n 3, 1) := by decide +kernel
theorem dX1_compares_50 : decode cX1_compares 50 = .ok (.if_icmp .ne 7, 3) := by decide +kernel
theorem dX1_compares_53 : decode cX1_compares 53 = .ok (.iconst 1, 1) := by decide +kernel
theorem dX1_compares_54 : decode cX1_compares 54 = .ok (.goto 4, 3) := by decide +kernel
theorem dX1_compares_57 : decode cX1_compares 57 = .ok (.iconst 0, 1) := by decide +kernel
theorem dX1_compares_58 : decode cX1_compares 58 = .ok (.ireturn, 1) := by decide +kernel
theorem dX2_init_0 : decode cX2_init 0 = .ok (.aload_n 0, 1) := by decide +kernel
theorem dX2_init_1 : decode cX2_init 1 = .ok (.invokespecial 5, 3) := by decide +kernel
theorem dX2_init_4 : decode cX2_init 4 = .ok (.aload_n 0, 1) := by decide +kernel
theorem dX2_init_5 : decode cX2_init 5 = .ok (.aload_n 1, 1) := by decide +kernel
theorem dX2_init_6 : decode cX2_init 6 = .ok (.putfield 11, 3) := by decide +kernel
theorem dX2_init_9 : decode cX2_init 9 = .ok (.aload_n 0, 1) := by decide +kernel
theorem dX2_init_10 : decode cX2_init 10 = .ok (.iconst 0, 1) := by decide +kernel
theorem dX2_init_11 : decode cX2_init 11 = .ok (.putfield 15, 3) := by decide +kernel
theorem dX2_init_14 : decode cX2_init 14 = .ok (.aload_n 0, 1) := by decide +kernel
theorem dX2_init_15 : decode cX2_init 15 = .ok (.sipush 701, 3) := by decide +kernel
theorem dX2_init_18 : decode cX2_init 18 = .ok (.newarray .int, 2) := by decide +kernel
theorem dX2_init_20 : decode cX2_init 20 = .ok (.putfield 19, 3) := by decide +kernel
theorem dX2_init_23 : decode cX2_init 23 = .ok (.aload_n 0, 1) := by decide +kernel
theorem dX2_init_24 : decode cX2_init 24 = .ok (.sipush 701, 3) := by decide +kernel
theorem dX2_init_27 : decode cX2_init 27 = .ok (.newarray .int, 2) := by decide +kernel
theorem dX2_init_29 : decode cX2_init 29 = .ok (.putfield 23, 3) := by decide +kernel
theorem dX2_init_32 : decode cX2_init 32 = .ok (.aload_n 0, 1) := by decide +kernel
theorem dX2_init_33 : decode cX2_init 33 = .ok (.iconst 0, 1) := by decide +kernel
theorem dX2_init_34 : decode cX2_init 34 = .ok (.putfield 26, 3) := by decide +kernel
theorem dX2_init_37 : decode cX2_init 37 = .ok (.aload_n 0, 1) := by decide +kernel
theorem dX2_init_38 : decode cX2_init 38 = .ok (.sipush 700, 3) := by decide +kernel
theorem dX2_init_41 : decode cX2_init 41 = .ok (.newarray .int, 2) := by decide +kernel
theorem dX2_init_43 : decode cX2_init 43 = .ok (.putfield 29, 3) := by decide +kernel
theorem dX2_init_46 : decode cX2_init 46 = .ok (.aload_n 0, 1) := by decide +kernel
theorem dX2_init_47 : decode cX2_init 47 = .ok (.iconst 0, 1) := by decide +kernel
theorem dX2_init_48 : decode cX2_init 48 = .ok (.putfield 32, 3) := by decide +kernel
theorem dX2_init_51 : decode cX2_init 51 = .ok (.return_, 1) := by decide +kernel
theorem dX2_compile_0 : decode cX2_compile 0 = .ok (.aload_n 0, 1) := by decide +kernel
theorem dX2_compile_1 : decode cX2_compile 1 = .ok (.iload_n 1, 1) := by decide +kernel
theorem dX2_compile_2 : decode cX2_compile 2 = .ok (.iconst 0, 1) := by decide +kernel
theorem dX2_compile_3 : decode cX2_compile 3 = .ok (.aload_n 0, 1) := by decide +kernel
theorem dX2_compile_4 : decode cX2_compile 4 = .ok (.getfield 11, 3) := by decide +kernel
theorem dX2_compile_7 : decode cX2_compile 7 = .ok (.arraylength, 1) := by decide +kernel
theorem dX2_compile_8 : decode cX2_compile 8 = .ok (.invokestatic 35, 3) := by decide +kernel
theorem dX2_compile_11 : decode cX2_compile 11 = .ok (.ifCond .eq 7, 3) := by decide +kernel
theorem dX2_compile_14 : decode cX2_compile 14 = .ok (.iload_n 1, 1) := by decide +kernel
theorem dX2_compile_15 : decode cX2_compile 15 = .ok (.goto 4, 3) := by decide +kernel
theorem dX2_compile_18 : decode cX2_compile 18 = .ok (.iconst 0, 1) := by decide +kernel
theorem dX2_compile_19 : decode cX2_compile 19 = .ok (.putfield 15, 3) := by decide +kernel
theorem dX2_compile_22 : decode cX2_compile 22 = .ok (.aload_n 0, 1) := by decide +kernel
theorem dX2_compile_23 : decode cX2_compile 23 = .ok (.iconst 0, 1) := by decide +kernel
theorem dX2_compile_24 : decode cX2_compile 24 = .ok (.putfield 32, 3) := by decide +kernel
theorem dX2_compile_27 : decode cX2_compile 27 = .ok (.aload_n 0, 1) := by decide +kernel
theorem dX2_compile_28 : decode cX2_compile 28 = .ok (.invokevirtual 39, 3) := by decide +kernel
theorem dX2_compile_31 : decode cX2_compile 31 = .ok (.aload_n 0, 1) := by decide +kernel
theorem dX2_compile_32 : decode cX2_compile 32 = .ok (.iconst 0, 1) := by decide +kernel
theorem dX2_compile_33 : decode cX2_compile 33 = .ok (.putfield 26, 3) := by decide +kernel
theorem dX2_compile_36 : decode cX2_compile 36 = .ok (.iconst 0, 1) := by decide +kernel
theorem dX2_compile_37 : decode cX2_compile 37 = .ok (.istore_n 2, 1) := by decide +kernel
theorem dX2_compile_38 : decode cX2_compile 38 = .ok (.iload_n 2, 1) := by decide +kernel
theorem dX2_compile_39 : decode cX2_compile 39 = .ok (.bipush 16, 2) := by decide +kernel
theorem dX2_compile_41 : decode cX2_compile 41 = .ok (.if_icmp .gt 58, 3) := by decide +kernel
theorem dX2_compile_44 : decode cX2_compile 44 = .ok (.aload_n 0, 1) := by decide +kernel
theorem dX2_compile_45 : decode cX2_compile 45 = .ok (.getfield 19, 3) := by decide +kernel
theorem dX2_compile_48 : decode cX2_compile 48 = .ok (.aload_n 0, 1) := by decide +kernel
theorem dX2_compile_49 : decode cX2_compile 49 = .ok (.getfield 26, 3) := by decide +kernel
theorem dX2_compile_52 : decode cX2_compile 52 = .ok (.iaload, 1) := by decide +kernel
theorem dX2_compile_53 : decode cX2_compile 53 = .ok (.bipush (-2), 2) := by decide +kernel
theorem dX2_compile_55 : decode cX2_compile 55 = .ok (.if_icmp .ne 23, 3) := by decide +kernel
theorem dX2_compile_58 : decode cX2_compile 58 = .ok (.new 42, 3) := by decide +kernel
theorem dX2_compile_61 : decode cX2_compile 61 = .ok (.dup, 1) := by decide +kernel
theorem dX2_compile_62 : decode cX2_compile 62 = .ok (.aload_n 0, 1) := by decide +kernel
theorem dX2_compile_63 : decode cX2_compile 63 = .ok (.getfield 29, 3) := by decide +kernel
theorem dX2_compile_66 : decode cX2_compile 66 = .ok (.aload_n 0, 1) := by decide +kernel
theorem dX2_compile_67 : decode cX2_compile 67 = .ok (.getfield 32, 3) := by decide +kernel
theorem dX2_compile_70 : decode cX2_compile 70 = .ok (.invokestatic 44, 3) := by decide +kernel
theorem dX2_compile_73 : decode cX2_compile 73 = .ok (.iload_n 2, 1) := by decide +kernel
theorem dX2_compile_74 : decode cX2_compile 74 = .ok (.invokespecial 50, 3) := by decide +kernel
theorem dX2_compile_77 : decode cX2_compile 77 = .ok (.areturn, 1) := by decide +kernel
theorem dX2_compile_78 : decode cX2_compile 78 = .ok (.iload_n 2, 1) := by decide +kernel
theorem dX2_compile_79 : decode cX2_compile 79 = .ok (.bipush 16, 2) := by decide +kernel
theorem dX2_compile_81 : decode cX2_compile 81 = .ok (.if_icmp .eq 10, 3) := by decide +kernel
theorem dX2_compile_84 : decode cX2_compile 84 = .ok (.aload_n 0, 1) := by decide +kernel
theorem dX2_compile_85 : decode cX2_compile 85 = .ok (.invokevirtual 53, 3) := by decide +kernel
theorem dX2_compile_88 : decode cX2_compile 88 = .ok (.ifCond .ne 5, 3) := by decide +kernel
theorem dX2_compile_91 : decode cX2_compile 91 = .ok (.aconst_null, 1) := by decide +kernel
theorem dX2_compile_92 : decode cX2_compile 92 = .ok (.areturn, 1) := by decide +kernel
theorem dX2_compile_93 : decode cX2_compile 93 = .ok (.iinc 2 1, 3) := by decide +kernel
theorem dX2_compile_96 : decode cX2_compile 96 = .ok (.goto (-58), 3) := by decide +kernel
theorem dX2_compile_99 : decode cX2_compile 99 = .ok (.aconst_null, 1) := by decide +kernel
theorem dX2_compile_100 : decode cX2_compile 100 = .ok (.areturn, 1) := by decide +kernel
theorem dX2_placeAtHand_0 : decode cX2_placeAtHand 0 = .ok (.aload_n 0, 1) := by decide +kernel
theorem dX2_placeAtHand_1 : decode cX2_placeAtHand 1 = .ok (.getfield 23, 3) := by decide +kernel
theorem dX2_placeAtHand_4 : decode cX2_placeAtHand 4 = .ok (.aload_n 0, 1) := by decide +kernel
theorem dX2_placeAtHand_5 : decode cX2_placeAtHand 5 = .ok (.getfield 26, 3) := by decide +kernel
theorem dX2_placeAtHand_8 : decode cX2_placeAtHand 8 = .ok (.iaload, 1) := by decide +kernel
theorem dX2_placeAtHand_9 : decode cX2_placeAtHand 9 = .ok (.ireturn, 1) := by decide +kernel
theorem dX2_split_0 : decode cX2_split 0 = .ok (.iconst 0, 1) := by decide +kernel
theorem dX2_split_1 : decode cX2_split 1 = .ok (.istore_n 1, 1) := by decide +kernel
theorem dX2_split_2 : decode cX2_split 2 = .ok (.iconst 0, 1) := by decide +kernel
theorem dX2_split_3 : decode cX2_split 3 = .ok (.istore_n 2, 1) := by decide +kernel
theorem dX2_split_4 : decode cX2_split 4 = .ok (.iload_n 1, 1) := by decide +kernel
theorem dX2_split_5 : decode cX2_split 5 = .ok (.aload_n 0, 1) := by decide +kernel
theorem dX2_split_6 : decode cX2_split 6 = .ok (.getfield 15, 3) := by decide +kernel
theorem dX2_split_9 : decode cX2_split 9 = .ok (.if_icmp .ge 69, 3) := by decide +kernel
theorem dX2_split_12 : decode cX2_split 12 = .ok (.iload_n 2, 1) := by decide +kernel
theorem dX2_split_13 : decode cX2_split 13 = .ok (.sipush 700, 3) := by decide +kernel
theorem dX2_split_16 : decode cX2_split 16 = .ok (.if_icmp .ge 62, 3) := by decide +kernel
theorem dX2_split_19 : decode cX2_split 19 = .ok (.iload_n 1, 1) := by decide +kernel
theorem dX2_split_20 : decode cX2_split 20 = .ok (.iconst 1, 1) := by decide +kernel
theorem dX2_split_21 : decode cX2_split 21 = .ok (.iadd, 1) := by decide +kernel
theorem dX2_split_22 : decode cX2_split 22 = .ok (.istore_n 3, 1) := by decide +kernel
theorem dX2_split_23 : decode cX2_split 23 = .ok (.aload_n 0, 1) := by decide +kernel
theorem dX2_split_24 : decode cX2_split 24 = .ok (.getfield 11, 3) := by decide +kernel
theorem dX2_split_27 : decode cX2_split 27 = .ok (.iload_n 1, 1) := by decide +kernel
theorem dX2_split_28 : decode cX2_split 28 = .ok (.baload, 1) := by decide +kernel
theorem dX2_split_29 : decode cX2_split 29 = .ok (.bipush 32, 2) := by decide +kernel
theorem dX2_split_31 : decode cX2_split 31 = .ok (.if_icmp .eq 42, 3) := by decide +kernel
theorem dX2_split_34 : decode cX2_split 34 = .ok (.aload_n 0, 1) := by decide +kernel
theorem dX2_split_35 : decode cX2_split 35 = .ok (.getfield 11, 3) := by decide +kernel
theorem dX2_split_38 : decode cX2_split 38 = .ok (.iload_n 1, 1) := by decide +kernel
theorem dX2_split_39 : decode cX2_split 39 = .ok (.baload, 1) := by decide +kernel
theorem dX2_split_40 : decode cX2_split 40 = .ok (.bipush 10, 2) := by decide +kernel
theorem dX2_split_42 : decode cX2_split 42 = .ok (.if_icmp .eq 31, 3) := by decide +kernel
theorem dX2_split_45 : decode cX2_split 45 = .ok (.aload_n 0, 1) := by decide +kernel
theorem dX2_split_46 : decode cX2_split 46 = .ok (.iload_n 1, 1) := by decide +kernel
theorem dX2_split_47 : decode cX2_split 47 = .ok (.invokevirtual 57, 3) := by decide +kernel
theorem dX2_split_50 : decode cX2_split 50 = .ok (.istore_n 3, 1) := by decide +kernel
theorem dX2_split_51 : decode cX2_split 51 = .ok (.aload_n 0, 1) := by decide +kernel
theorem dX2_split_52 : decode cX2_split 52 = .ok (.getfield 19, 3) := by decide +kernel
theorem dX2_split_55 : decode cX2_split 55 = .ok (.iload_n 2, 1) := by decide +kernel
theorem dX2_split_56 : decode cX2_split 56 = .ok (.aload_n 0, 1) := by decide +kernel
theorem dX2_split_57 : decode cX2_split 57 = .ok (.iload_n 1, 1) := by decide +kernel
theorem dX2_split_58 : decode cX2_split 58 = .ok (.iload_n 3, 1) := by decide +kernel
theorem dX2_split_59 : decode cX2_split 59 = .ok (.invokevirtual 61, 3) := by decide +kernel
theorem dX2_split_62 : decode cX2_split 62 = .ok (.iastore, 1) := by decide +kernel
theorem dX2_split_63 : decode cX2_split 63 = .ok (.aload_n 0, 1) := by decide +kernel
theorem dX2_split_64 : decode cX2_split 64 = .ok (.getfield 23, 3) := by decide +kernel
theorem dX2_split_67 : decode cX2_split 67 = .ok (.iload_n 2, 1) := by decide +kernel
theorem dX2_split_68 : decode cX2_split 68 = .ok (.iload_n 1, 1) := by decide +kernel
theorem dX2_split_69 : decode cX2_split 69 = .ok (.iastore, 1) := by decide +kernel
theorem dX2_split_70 : decode cX2_split 70 = .ok (.iinc 2 1, 3) := by decide +kernel
theorem dX2_split_73 : decode cX2_split 73 = .ok (.iload_n 3, 1) := by decide +kernel
theorem dX2_split_74 : decode cX2_split 74 = .ok (.istore_n 1, 1) := by decide +kernel
theorem dX2_split_75 : decode cX2_split 75 = .ok (.goto (-71), 3) := by decide +kernel
theorem dX2_split_78 : decode cX2_split 78 = .ok (.aload_n 0, 1) := by decide +kernel
theorem dX2_split_79 : decode cX2_split 79 = .ok (.getfield 19, 3) := by decide +kernel
theorem dX2_split_82 : decode cX2_split 82 = .ok (.iload_n 2, 1) := by decide +kernel
theorem dX2_split_83 : decode cX2_split 83 = .ok (.bipush (-2), 2) := by decide +kernel
theorem dX2_split_85 : decode cX2_split 85 = .ok (.iastore, 1) := by decide +kernel
theorem dX2_split_86 : decode cX2_split 86 = .ok (.aload_n 0, 1) := by decide +kernel
theorem dX2_split_87 : decode cX2_split 87 = .ok (.getfield 23, 3) := by decide +kernel
theorem dX2_split_90 : decode cX2_split 90 = .ok (.iload_n 2, 1) := by decide +kernel
theorem dX2_split_91 : decode cX2_split 91 = .ok (.aload_n 0, 1) := by decide +kernel
theorem dX2_split_92 : decode cX2_split 92 = .ok (.getfield 15, 3) := by decide +kernel
theorem dX2_split_95 : decode cX2_split 95 = .ok (.iastore, 1) := by decide +kernel
theorem dX2_split_96 : decode cX2_split 96 = .ok (.return_, 1) := by decide +kernel
theorem dX2_endOfToken_0 : decode cX2_endOfToken 0 = .ok (.iload_n 1, 1) := by decide +kernel
theorem dX2_endOfToken_1 : decode cX2_endOfToken 1 = .ok (.iconst 1, 1) := by decide +kernel
theorem dX2_endOfToken_2 : decode cX2_endOfToken 2 = .ok (.iadd, 1) := by decide +kernel
theorem dX2_endOfToken_3 : decode cX2_endOfToken 3 = .ok (.istore_n 2, 1) := by decide +kernel
theorem dX2_endOfToken_4 : decode cX2_endOfToken 4 = .ok (.aload_n 0, 1) := by decide +kernel
theorem dX2_endOfToken_5 : decode cX2_endOfToken 5 = .ok (.getfield 11, 3) := by decide +kernel
theorem dX2_endOfToken_8 : decode cX2_endOfToken 8 = .ok (.iload_n 1, 1) := by decide +kernel
theorem dX2_endOfToken_9 : decode cX2_endOfToken 9 = .ok (.baload, 1) := by decide +kernel
theorem dX2_endOfToken_10 : decode cX2_endOfToken 10 = .ok (.invokestatic 65, 3) := by decide +kernel
theorem dX2_endOfToken_13 : decode cX2_endOfToken 13 = .ok (.ifCond .eq 29, 3) := by decide +kernel
theorem dX2_endOfToken_16 : decode cX2_endOfToken 16 = .ok (.iload_n 2, 1) := by decide +kernel
theorem dX2_endOfToken_17 : decode cX2_endOfToken 17 = .ok (.aload_n 0, 1) := by decide +kernel
theorem dX2_endOfToken_18 : decode cX2_endOfToken 18 = .ok (.getfield 15, 3) := by decide +kernel
theorem dX2_endOfToken_21 : decode cX2_endOfToken 21 = .ok (.if_icmp .ge 59, 3) := by decide +kernel
theorem dX2_endOfToken_24 : decode cX2_endOfToken 24 = .ok (.aload_n 0, 1) := by decide +kernel
theorem dX2_endOfToken_25 : decode cX2_endOfToken 25 = .ok (.getfield 11, 3) := by decide +kernel
theorem dX2_endOfToken_28 : decode cX2_endOfToken 28 = .ok (.iload_n 2, 1) := by decide +kernel
theorem dX2_endOfToken_29 : decode cX2_endOfToken 29 = .ok (.baload, 1) := by decide +kernel
theorem dX2_endOfToken_30 : decode cX2_endOfToken 30 = .ok (.invokestatic 65, 3) := by decide +kernel
theorem dX2_endOfToken_33 : decode cX2_endOfToken 33 = .ok (.ifCond .eq 47, 3) := by decide +kernel
theorem dX2_endOfToken_36 : decode cX2_endOfToken 36 = .ok (.iinc 2 1, 3) := by decide +kernel
theorem dX2_endOfToken_39 : decode cX2_endOfToken 39 = .ok (.goto (-23), 3) := by decide +kernel
theorem dX2_endOfToken_42 : decode cX2_endOfToken 42 = .ok (.aload_n 0, 1) := by decide +kernel
theorem dX2_endOfToken_43 : decode cX2_endOfToken 43 = .ok (.getfield 11, 3) := by decide +kernel
theorem dX2_endOfToken_46 : decode cX2_endOfToken 46 = .ok (.iload_n 1, 1) := by decide +kernel
theorem dX2_endOfToken_47 : decode cX2_endOfToken 47 = .ok (.baload, 1) := by decide +kernel
theorem dX2_endOfToken_48 : decode cX2_endOfToken 48 = .ok (.invokestatic 69, 3) := by decide +kernel
theorem dX2_endOfToken_51 : decode cX2_endOfToken 51 = .ok (.ifCond .eq 29, 3) := by decide +kernel
theorem dX2_endOfToken_54 : decode cX2_endOfToken 54 = .ok (.iload_n 2, 1) := by decide +kernel
theorem dX2_endOfToken_55 : decode cX2_endOfToken 55 = .ok (.aload_n 0, 1) := by decide +kernel
theorem dX2_endOfToken_56 : decode cX2_endOfToken 56 = .ok (.getfield 15, 3) := by decide +kernel
theorem dX2_endOfToken_59 : decode cX2_endOfToken 59 = .ok (.if_icmp .ge 21, 3) := by decide +kernel
theorem dX2_endOfToken_62 : decode cX2_endOfToken 62 = .ok (.aload_n 0, 1) := by decide +kernel
theorem dX2_endOfToken_63 : decode cX2_endOfToken 63 = .ok (.getfield 11, 3) := by decide +kernel
theorem dX2_endOfToken_66 : decode cX2_endOfToken 66 = .ok (.iload_n 2, 1) := by decide +kernel
theorem dX2_endOfToken_67 : decode cX2_endOfToken 67 = .ok (.baload, 1) := by decide +kernel
theorem dX2_endOfToken_68 : decode cX2_endOfToken 68 = .ok (.invokestatic 69, 3) := by decide +kernel
theorem dX2_endOfToken_71 : decode cX2_endOfToken 71 = .ok (.ifCond .eq 9, 3) := by decide +kernel
theorem dX2_endOfToken_74 : decode cX2_endOfToken 74 = .ok (.iinc 2 1, 3) := by decide +kernel
theorem dX2_endOfToken_77 : decode cX2_endOfToken 77 = .ok (.goto (-23), 3) := by decide +kernel
theorem dX2_endOfToken_80 : decode cX2_endOfToken 80 = .ok (.iload_n 2, 1) := by decide +kernel
theorem dX2_endOfToken_81 : decode cX2_endOfToken 81 = .ok (.ireturn, 1) := by decide +kernel
theorem dX2_tokenOf_0 : decode cX2_tokenOf 0 = .ok (.aload_n 0, 1) := by decide +kernel
theorem dX2_tokenOf_1 : decode cX2_tokenOf 1 = .ok (.getfield 11, 3) := by decide +kernel
theorem dX2_tokenOf_4 : decode cX2_tokenOf 4 = .ok (.iload_n 1, 1) := by decide +kernel
theorem dX2_tokenOf_5 : decode cX2_tokenOf 5 = .ok (.baload, 1) := by decide +kernel
theorem dX2_tokenOf_6 : decode cX2_tokenOf 6 = .ok (.istore_n 3, 1) := by decide +kernel
theorem dX2_tokenOf_7 : decode cX2_tokenOf 7 = .ok (.iload_n 3, 1) := by decide +kernel
theorem dX2_tokenOf_8 : decode cX2_tokenOf 8 = .ok (.invokestatic 65, 3) := by decide +kernel
theorem dX2_tokenOf_11 : decode cX2_tokenOf 11 = .ok (.ifCond .eq 10, 3) := by decide +kernel
theorem dX2_tokenOf_14 : decode cX2_tokenOf 14 = .ok (.aload_n 0, 1) := by decide +kernel
theorem dX2_tokenOf_15 : decode cX2_tokenOf 15 = .ok (.iload_n 1, 1) := by decide +kernel
theorem dX2_tokenOf_16 : decode cX2_tokenOf 16 = .ok (.iload_n 2, 1) := by decide +kernel
theorem dX2_tokenOf_17 : decode cX2_tokenOf 17 = .ok (.invokevirtual 72, 3) := by decide +kernel
theorem dX2_tokenOf_20 : decode cX2_tokenOf 20 = .ok (.ireturn, 1) := by decide +kernel
theorem dX2_tokenOf_21 : decode cX2_tokenOf 21 = .ok (.iload_n 3, 1) := by decide +kernel
theorem dX2_tokenOf_22 : decode cX2_tokenOf 22 = .ok (.invokestatic 69, 3) := by decide +kernel
theorem dX2_tokenOf_25 : decode cX2_tokenOf 25 = .ok (.ifCond .eq 10, 3) := by decide +kernel
theorem dX2_tokenOf_28 : decode cX2_tokenOf 28 = .ok (.aload_n 0, 1) := by decide +kernel
theorem dX2_tokenOf_29 : decode cX2_tokenOf 29 = .ok (.iload_n 1, 1) := by decide +kernel
theorem dX2_tokenOf_30 : decode cX2_tokenOf 30 = .ok (.iload_n 2, 1) := by decide +kernel
theorem dX2_tokenOf_31 : decode cX2_tokenOf 31 = .ok (.invokevirtual 75, 3) := by decide +kernel
theorem dX2_tokenOf_34 : decode cX2_tokenOf 34 = .ok (.ireturn, 1) := by decide +kernel
theorem dX2_tokenOf_35 : decode cX2_tokenOf 35 = .ok (.iload_n 3, 1) := by decide +kernel
theorem dX2_tokenOf_36 : decode cX2_tokenOf 36 = .ok (.bipush 59, 2) := by decide +kernel
theorem dX2_tokenOf_38 : decode cX2_tokenOf 38 = .ok (.if_icmp .eq 33, 3) := by decide +kernel
theorem dX2_tokenOf_41 : decode cX2_tokenOf 41 = .ok (.iload_n 3, 1) := by decide +kernel
theorem dX2_tokenOf_42 : decode cX2_tokenOf 42 = .ok (.bipush 40, 2) := by decide +kernel
theorem dX2_tokenOf_44 : decode cX2_tokenOf 44 = .ok (.if_icmp .eq 27, 3) := by decide +kernel
theorem dX2_tokenOf_47 : decode cX2_tokenOf 47 = .ok (.iload_n 3, 1) := by decide +kernel
theorem dX2_tokenOf_48 : decode cX2_tokenOf 48 = .ok (.bipush 41, 2) := by decide +kernel
theorem dX2_tokenOf_50 : decode cX2_tokenOf 50 = .ok (.if_icmp .eq 21, 3) := by decide +kernel
theorem dX2_tokenOf_53 : decode cX2_tokenOf 53 = .ok (.iload_n 3, 1) := by decide +kernel
theorem dX2_tokenOf_54 : decode cX2_tokenOf 54 = .ok (.bipush 60, 2) := by decide +kernel
theorem dX2_tokenOf_56 : decode cX2_tokenOf 56 = .ok (.if_icmp .eq 15, 3) := by decide +kernel
theorem dX2_tokenOf_59 : decode cX2_tokenOf 59 = .ok (.iload_n 3, 1) := by decide +kernel
theorem dX2_tokenOf_60 : decode cX2_tokenOf 60 = .ok (.bipush 62, 2) := by decide +kernel
theorem dX2_tokenOf_62 : decode cX2_tokenOf 62 = .ok (.if_icmp .eq 9, 3) := by decide +kernel
theorem dX2_tokenOf_65 : decode cX2_tokenOf 65 = .ok (.iload_n 3, 1) := by decide +kernel
theorem dX2_tokenOf_66 : decode cX2_tokenOf 66 = .ok (.bipush 61, 2) := by decide +kernel
theorem dX2_tokenOf_68 : decode cX2_tokenOf 68 = .ok (.if_icmp .ne 7, 3) := by decide +kernel
theorem dX2_tokenOf_71 : decode cX2_tokenOf 71 = .ok (.iconst 1, 1) := by decide +kernel
theorem dX2_tokenOf_72 : decode cX2_tokenOf 72 = .ok (.goto 4, 3) := by decide +kernel
theorem dX2_tokenOf_75 : decode cX2_tokenOf 75 = .ok (.iconst 0, 1) := by decide +kernel
theorem dX2_tokenOf_76 : decode cX2_tokenOf 76 = .ok (.istore 4, 2) := by decide +kernel
theorem dX2_tokenOf_78 : decode cX2_tokenOf 78 = .ok (.iload 4, 2) := by decide +kernel
theorem dX2_tokenOf_80 : decode cX2_tokenOf 80 = .ok (.ifCond .eq 11, 3) := by decide +kernel
theorem dX2_tokenOf_83 : decode cX2_tokenOf 83 = .ok (.sipush 20000, 3) := by decide +kernel
theorem dX2_tokenOf_86 : decode cX2_tokenOf 86 = .ok (.iload_n 3, 1) := by decide +kernel
theorem dX2_tokenOf_87 : decode cX2_tokenOf 87 = .ok (.iadd, 1) := by decide +kernel
theorem dX2_tokenOf_88 : decode cX2_tokenOf 88 = .ok (.goto 5, 3) := by decide +kernel
theorem dX2_tokenOf_91 : decode cX2_tokenOf 91 = .ok (.bipush (-3), 2) := by decide +kernel
theorem dX2_tokenOf_93 : decode cX2_tokenOf 93 = .ok (.ireturn, 1) := by decide +kernel
theorem dX2_wordOf_0 : decode cX2_wordOf 0 = .ok (.iconst 0, 1) := by decide +kernel
theorem dX2_wordOf_1 : decode cX2_wordOf 1 = .ok (.istore_n 3, 1) := by decide +kernel
theorem dX2_wordOf_2 : decode cX2_wordOf 2 = .ok (.iload_n 3, 1) := by decide +kernel
theorem dX2_wordOf_3 : decode cX2_wordOf 3 = .ok (.bipush 21, 2) := by decide +kernel
theorem dX2_wordOf_5 : decode cX2_wordOf 5 = .ok (.if_icmp .ge 100, 3) := by decide +kernel
theorem dX2_wordOf_8 : decode cX2_wordOf 8 = .ok (.iload_n 2, 1) := by decide +kernel
theorem dX2_wordOf_9 : decode cX2_wordOf 9 = .ok (.iload_n 1, 1) := by decide +kernel
theorem dX2_wordOf_10 : decode cX2_wordOf 10 = .ok (.isub, 1) := by decide +kernel
theorem dX2_wordOf_11 : decode cX2_wordOf 11 = .ok (.bipush 6, 2) := by decide +kernel
theorem dX2_wordOf_13 : decode cX2_wordOf 13 = .ok (.if_icmp .gt 92, 3) := by decide +kernel
theorem dX2_wordOf_16 : decode cX2_wordOf 16 = .ok (.iconst 1, 1) := by decide +kernel
theorem dX2_wordOf_17 : decode cX2_wordOf 17 = .ok (.istore 4, 2) := by decide +kernel
theorem dX2_wordOf_19 : decode cX2_wordOf 19 = .ok (.iconst 0, 1) := by decide +kernel
theorem dX2_wordOf_20 : decode cX2_wordOf 20 = .ok (.istore 5, 2) := by decide +kernel
theorem dX2_wordOf_22 : decode cX2_wordOf 22 = .ok (.iload 5, 2) := by decide +kernel
theorem dX2_wordOf_24 : decode cX2_wordOf 24 = .ok (.bipush 6, 2) := by decide +kernel
theorem dX2_wordOf_26 : decode cX2_wordOf 26 = .ok (.if_icmp .ge 62, 3) := by decide +kernel
theorem dX2_wordOf_29 : decode cX2_wordOf 29 = .ok (.iload 4, 2) := by decide +kernel
theorem dX2_wordOf_31 : decode cX2_wordOf 31 = .ok (.ifCond .eq 57, 3) := by decide +kernel
theorem dX2_wordOf_34 : decode cX2_wordOf 34 = .ok (.iload_n 1, 1) := by decide +kernel
theorem dX2_wordOf_35 : decode cX2_wordOf 35 = .ok (.iload 5, 2) := by decide +kernel
theorem dX2_wordOf_37 : decode cX2_wordOf 37 = .ok (.iadd, 1) := by decide +kernel
theorem dX2_wordOf_38 : decode cX2_wordOf 38 = .ok (.iload_n 2, 1) := by decide +kernel
theorem dX2_wordOf_39 : decode cX2_wordOf 39 = .ok (.if_icmp .ge 15, 3) := by decide +kernel
theorem dX2_wordOf_42 : decode cX2_wordOf 42 = .ok (.aload_n 0, 1) := by decide +kernel
theorem dX2_wordOf_43 : decode cX2_wordOf 43 = .ok (.getfield 11, 3) := by decide +kernel
theorem dX2_wordOf_46 : decode cX2_wordOf 46 = .ok (.iload_n 1, 1) := by decide +kernel
theorem dX2_wordOf_47 : decode cX2_wordOf 47 = .ok (.iload 5, 2) := by decide +kernel
theorem dX2_wordOf_49 : decode cX2_wordOf 49 = .ok (.iadd, 1) := by decide +kernel
theorem dX2_wordOf_50 : decode cX2_wordOf 50 = .ok (.baload, 1) := by decide +kernel
theorem dX2_wordOf_51 : decode cX2_wordOf 51 = .ok (.goto 5, 3) := by decide +kernel
theorem dX2_wordOf_54 : decode cX2_wordOf 54 = .ok (.bipush 32, 2) := by decide +kernel
theorem dX2_wordOf_56 : decode cX2_wordOf 56 = .ok (.istore 6, 2) := by decide +kernel
theorem dX2_wordOf_58 : decode cX2_wordOf 58 = .ok (.iload 6, 2) := by decide +kernel
theorem dX2_wordOf_60 : decode cX2_wordOf 60 = .ok (.ldc 78, 2) := by decide +kernel
theorem dX2_wordOf_62 : decode cX2_wordOf 62 = .ok (.iload_n 3, 1) := by decide +kernel
theorem dX2_wordOf_63 : decode cX2_wordOf 63 = .ok (.bipush 6, 2) := by decide +kernel
theorem dX2_wordOf_65 : decode cX2_wordOf 65 = .ok (.imul, 1) := by decide +kernel
theorem dX2_wordOf_66 : decode cX2_wordOf 66 = .ok (.iload 5, 2) := by decide +kernel
theorem dX2_wordOf_68 : decode cX2_wordOf 68 = .ok (.iadd, 1) := by decide +kernel
theorem dX2_wordOf_69 : decode cX2_wordOf 69 = .ok (.invokevirtual 80, 3) := by decide +kernel
theorem dX2_wordOf_72 : decode cX2_wordOf 72 = .ok (.if_icmp .ne 7, 3) := by decide +kernel
theorem dX2_wordOf_75 : decode cX2_wordOf 75 = .ok (.iconst 1, 1) := by decide +kernel
theorem dX2_wordOf_76 : decode cX2_wordOf 76 = .ok (.goto 4, 3) := by decide +kernel
theorem dX2_wordOf_79 : decode cX2_wordOf 79 = .ok (.iconst 0, 1) := by decide +kernel
theorem dX2_wordOf_80 : decode cX2_wordOf 80 = .ok (.istore 4, 2) := by decide +kernel
theorem dX2_wordOf_82 : decode cX2_wordOf 82 = .ok (.iinc 5 1, 3) := by decide +kernel
theorem dX2_wordOf_85 : decode cX2_wordOf 85 = .ok (.goto (-63), 3) := by decide +kernel
theorem dX2_wordOf_88 : decode cX2_wordOf 88 = .ok (.iload 4, 2) := by decide +kernel
theorem dX2_wordOf_90 : decode cX2_wordOf 90 = .ok (.ifCond .eq 9, 3) := by decide +kernel
theorem dX2_wordOf_93 : decode cX2_wordOf 93 = .ok (.sipush 10000, 3) := by decide +kernel
theorem dX2_wordOf_96 : decode cX2_wordOf 96 = .ok (.iload_n 3, 1) := by decide +kernel
theorem dX2_wordOf_97 : decode cX2_wordOf 97 = .ok (.iadd, 1) := by decide +kernel
theorem dX2_wordOf_98 : decode cX2_wordOf 98 = .ok (.ireturn, 1) := by decide +kernel
theorem dX2_wordOf_99 : decode cX2_wordOf 99 = .ok (.iinc 3 1, 3) := by decide +kernel
theorem dX2_wordOf_102 : decode cX2_wordOf 102 = .ok (.goto (-100), 3) := by decide +kernel
theorem dX2_wordOf_105 : decode cX2_wordOf 105 = .ok (.bipush (-3), 2) := by decide +kernel
theorem dX2_wordOf_107 : decode cX2_wordOf 107 = .ok (.ireturn, 1) := by decide +kernel
theorem dX2_numberOf_0 : decode cX2_numberOf 0 = .ok (.iload_n 2, 1) := by decide +kernel
theorem dX2_numberOf_1 : decode cX2_numberOf 1 = .ok (.iload_n 1, 1) := by decide +kernel
theorem dX2_numberOf_2 : decode cX2_numberOf 2 = .ok (.isub, 1) := by decide +kernel
theorem dX2_numberOf_3 : decode cX2_numberOf 3 = .ok (.iconst 4, 1) := by decide +kernel
theorem dX2_numberOf_4 : decode cX2_numberOf 4 = .ok (.if_icmp .le 6, 3) := by decide +kernel
theorem dX2_numberOf_7 : decode cX2_numberOf 7 = .ok (.bipush (-3), 2) := by decide +kernel
theorem dX2_numberOf_9 : decode cX2_numberOf 9 = .ok (.ireturn, 1) := by decide +kernel
theorem dX2_numberOf_10 : decode cX2_numberOf 10 = .ok (.iconst 0, 1) := by decide +kernel
theorem dX2_numberOf_11 : decode cX2_numberOf 11 = .ok (.istore_n 3, 1) := by decide +kernel
theorem dX2_numberOf_12 : decode cX2_numberOf 12 = .ok (.iload_n 1, 1) := by decide +kernel
theorem dX2_numberOf_13 : decode cX2_numberOf 13 = .ok (.istore 4, 2) := by decide +kernel
theorem dX2_numberOf_15 : decode cX2_numberOf 15 = .ok (.iload 4, 2) := by decide +kernel
theorem dX2_numberOf_17 : decode cX2_numberOf 17 = .ok (.iload_n 2, 1) := by decide +kernel
theorem dX2_numberOf_18 : decode cX2_numberOf 18 = .ok (.if_icmp .ge 25, 3) := by decide +kernel
theorem dX2_numberOf_21 : decode cX2_numberOf 21 = .ok (.iload_n 3, 1) := by decide +kernel
theorem dX2_numberOf_22 : decode cX2_numberOf 22 = .ok (.bipush 10, 2) := by decide +kernel
theorem dX2_numberOf_24 : decode cX2_numberOf 24 = .ok (.imul, 1) := by decide +kernel
theorem dX2_numberOf_25 : decode cX2_numberOf 25 = .ok (.aload_n 0, 1) := by decide +kernel
theorem dX2_numberOf_26 : decode cX2_numberOf 26 = .ok (.getfield 11, 3) := by decide +kernel
theorem dX2_numberOf_29 : decode cX2_numberOf 29 = .ok (.iload 4, 2) := by decide +kernel
theorem dX2_numberOf_31 : decode cX2_numberOf 31 = .ok (.baload, 1) := by decide +kernel
theorem dX2_numberOf_32 : decode cX2_numberOf 32 = .ok (.iadd, 1) := by decide +kernel
theorem dX2_numberOf_33 : decode cX2_numberOf 33 = .ok (.bipush 48, 2) := by decide +kernel
theorem dX2_numberOf_35 : decode cX2_numberOf 35 = .ok (.isub, 1) := by decide +kernel
theorem dX2_numberOf_36 : decode cX2_numberOf 36 = .ok (.istore_n 3, 1) := by decide +kernel
theorem dX2_numberOf_37 : decode cX2_numberOf 37 = .ok (.iinc 4 1, 3) := by decide +kernel
theorem dX2_numberOf_40 : decode cX2_numberOf 40 = .ok (.goto (-25), 3) := by decide +kernel
theorem dX2_numberOf_43 : decode cX2_numberOf 43 = .ok (.iload_n 3, 1) := by decide +kernel
theorem dX2_numberOf_44 : decode cX2_numberOf 44 = .ok (.ireturn, 1) := by decide +kernel
theorem dX2_isLetter_0 : decode cX2_isLetter 0 = .ok (.iload_n 0, 1) := by decide +kernel
theorem dX2_isLetter_1 : decode cX2_isLetter 1 = .ok (.bipush 97, 2) := by decide +kernel
theorem dX2_isLetter_3 : decode cX2_isLetter 3 = .ok (.if_icmp .lt 13, 3) := by decide +kernel
theorem dX2_isLetter_6 : decode cX2_isLetter 6 = .ok (.iload_n 0, 1) := by decide +kernel
theorem dX2_isLetter_7 : decode cX2_isLetter 7 = .ok (.bipush 122, 2) := by decide +kernel
theorem dX2_isLetter_9 : decode cX2_isLetter 9 = .ok (.if_icmp .gt 7, 3) := by decide +kernel
theorem dX2_isLetter_12 : decode cX2_isLetter 12 = .ok (.iconst 1, 1) := by decide +kernel
theorem dX2_isLetter_13 : decode cX2_isLetter 13 = .ok (.goto 4, 3) := by decide +kernel
theorem dX2_isLetter_16 : decode cX2_isLetter 16 = .ok (.iconst 0, 1) := by decide +kernel
theorem dX2_isLetter_17 : decode cX2_isLetter 17 = .ok (.ireturn, 1) := by decide +kernel
theorem dX2_isDigit_0 : decode cX2_isDigit 0 = .ok (.iload_n 0, 1) := by decide +kernel
theorem dX2_isDigit_1 : decode cX2_isDigit 1 = .ok (.bipush 48, 2) := by decide +kernel
theorem dX2_isDigit_3 : decode cX2_isDigit 3 = .ok (.if_icmp .lt 13, 3) := by decide +kernel
theorem dX2_isDigit_6 : decode cX2_isDigit 6 = .ok (.iload_n 0, 1) := by decide +kernel
theorem dX2_isDigit_7 : decode cX2_isDigit 7 = .ok (.bipush 57, 2) := by decide +kernel
theorem dX2_isDigit_9 : decode cX2_isDigit 9 = .ok (.if_icmp .gt 7, 3) := by decide +kernel
theorem dX2_isDigit_12 : decode cX2_isDigit 12 = .ok (.iconst 1, 1) := by decide +kernel
theorem dX2_isDigit_13 : decode cX2_isDigit 13 = .ok (.goto 4, 3) := by decide +kernel
theorem dX2_isDigit_16 : decode cX2_isDigit 16 = .ok (.iconst 0, 1) := by decide +kernel
theorem dX2_isDigit_17 : decode cX2_isDigit 17 = .ok (.ireturn, 1) := by decide +kernel
theorem dX2_readRule_0 : decode cX2_readRule 0 = .ok (.aload_n 0, 1) := by decide +kernel
theorem dX2_readRule_1 : decode cX2_readRule 1 = .ok (.getfield 32, 3) := by decide +kernel
theorem dX2_readRule_4 : decode cX2_readRule 4 = .ok (.istore_n 1, 1) := by decide +kernel
theorem dX2_readRule_5 : decode cX2_readRule 5 = .ok (.aload_n 0, 1) := by decide +kernel
theorem dX2_readRule_6 : decode cX2_readRule 6 = .ok (.iconst 0, 1) := by decide +kernel
theorem dX2_readRule_7 : decode cX2_readRule 7 = .ok (.invokevirtual 86, 3) := by decide +kernel
theorem dX2_readRule_10 : decode cX2_readRule 10 = .ok (.aload_n 0, 1) := by decide +kernel
theorem dX2_readRule_11 : decode cX2_readRule 11 = .ok (.iconst 0, 1) := by decide +kernel
theorem dX2_readRule_12 : decode cX2_readRule 12 = .ok (.invokevirtual 86, 3) := by decide +kernel
theorem dX2_readRule_15 : decode cX2_readRule 15 = .ok (.aload_n 0, 1) := by decide +kernel
theorem dX2_readRule_16 : decode cX2_readRule 16 = .ok (.invokevirtual 90, 3) := by decide +kernel
theorem dX2_readRule_19 : decode cX2_readRule 19 = .ok (.istore_n 2, 1) := by decide +kernel
theorem dX2_readRule_20 : decode cX2_readRule 20 = .ok (.iload_n 2, 1) := by decide +kernel
theorem dX2_readRule_21 : decode cX2_readRule 21 = .ok (.iconst (-1), 1) := by decide +kernel
theorem dX2_readRule_22 : decode cX2_readRule 22 = .ok (.if_icmp .ne 5, 3) := by decide +kernel
theorem dX2_readRule_25 : decode cX2_readRule 25 = .ok (.iconst 0, 1) := by decide +kernel
theorem dX2_readRule_26 : decode cX2_readRule 26 = .ok (.ireturn, 1) := by decide +kernel
theorem dX2_readRule_27 : decode cX2_readRule 27 = .ok (.aload_n 0, 1) := by decide +kernel
theorem dX2_readRule_28 : decode cX2_readRule 28 = .ok (.sipush 10017, 3) := by decide +kernel
theorem dX2_readRule_31 : decode cX2_readRule 31 = .ok (.invokevirtual 94, 3) := by decide +kernel
theorem dX2_readRule_34 : decode cX2_readRule 34 = .ok (.ifCond .eq 13, 3) := by decide +kernel
theorem dX2_readRule_37 : decode cX2_readRule 37 = .ok (.aload_n 0, 1) := by decide +kernel
theorem dX2_readRule_38 : decode cX2_readRule 38 = .ok (.iconst 0, 1) := by decide +kernel
theorem dX2_readRule_39 : decode cX2_readRule 39 = .ok (.invokevirtual 97, 3) := by decide +kernel
theorem dX2_readRule_42 : decode cX2_readRule 42 = .ok (.ifCond .ne 5, 3) := by decide +kernel
theorem dX2_readRule_45 : decode cX2_readRule 45 = .ok (.iconst 0, 1) := by decide +kernel
theorem dX2_readRule_46 : decode cX2_readRule 46 = .ok (.ireturn, 1) := by decide +kernel
theorem dX2_readRule_47 : decode cX2_readRule 47 = .ok (.iload_n 1, 1) := by decide +kernel
theorem dX2_readRule_48 : decode cX2_readRule 48 = .ok (.iconst 1, 1) := by decide +kernel
theorem dX2_readRule_49 : decode cX2_readRule 49 = .ok (.iadd, 1) := by decide +kernel
theorem dX2_readRule_50 : decode cX2_readRule 50 = .ok (.aload_n 0, 1) := by decide +kernel
theorem dX2_readRule_51 : decode cX2_readRule 51 = .ok (.getfield 29, 3) := by decide +kernel
theorem dX2_readRule_54 : decode cX2_readRule 54 = .ok (.arraylength, 1) := by decide +kernel
theorem dX2_readRule_55 : decode cX2_readRule 55 = .ok (.if_icmp .ge 22, 3) := by decide +kernel
theorem dX2_readRule_58 : decode cX2_readRule 58 = .ok (.aload_n 0, 1) := by decide +kernel
theorem dX2_readRule_59 : decode cX2_readRule 59 = .ok (.getfield 29, 3) := by decide +kernel
theorem dX2_readRule_62 : decode cX2_readRule 62 = .ok (.iload_n 1, 1) := by decide +kernel
theorem dX2_readRule_63 : decode cX2_readRule 63 = .ok (.iload_n 2, 1) := by decide +kernel
theorem dX2_readRule_64 : decode cX2_readRule 64 = .ok (.iastore, 1) := by decide +kernel
theorem dX2_readRule_65 : decode cX2_readRule 65 = .ok (.aload_n 0, 1) := by decide +kernel
theorem dX2_readRule_66 : decode cX2_readRule 66 = .ok (.getfield 29, 3) := by decide +kernel
theorem dX2_readRule_69 : decode cX2_readRule 69 = .ok (.iload_n 1, 1) := by decide +kernel
theorem dX2_readRule_70 : decode cX2_readRule 70 = .ok (.iconst 1, 1) := by decide +kernel
theorem dX2_readRule_71 : decode cX2_readRule 71 = .ok (.iadd, 1) := by decide +kernel
theorem dX2_readRule_72 : decode cX2_readRule 72 = .ok (.aload_n 0, 1) := by decide +kernel
theorem dX2_readRule_73 : decode cX2_readRule 73 = .ok (.getfield 32, 3) := by decide +kernel
theorem dX2_readRule_76 : decode cX2_readRule 76 = .ok (.iastore, 1) := by decide +kernel
theorem dX2_readRule_77 : decode cX2_readRule 77 = .ok (.aload_n 0, 1) := by decide +kernel
theorem dX2_readRule_78 : decode cX2_readRule 78 = .ok (.sipush 20059, 3) := by decide +kernel
theorem dX2_readRule_81 : decode cX2_readRule 81 = .ok (.invokevirtual 94, 3) := by decide +kernel
theorem dX2_readRule_84 : decode cX2_readRule 84 = .ok (.ireturn, 1) := by decide +kernel
theorem dX2_readAim_0 : decode cX2_readAim 0 = .ok (.aload_n 0, 1) := by decide +kernel
theorem dX2_readAim_1 : decode cX2_readAim 1 = .ok (.getfield 19, 3) := by decide +kernel
theorem dX2_readAim_4 : decode cX2_readAim 4 = .ok (.aload_n 0, 1) := by decide +kernel
theorem dX2_readAim_5 : decode cX2_readAim 5 = .ok (.getfield 26, 3) := by decide +kernel
theorem dX2_readAim_8 : decode cX2_readAim 8 = .ok (.iaload, 1) := by decide +kernel
theorem dX2_readAim_9 : decode cX2_readAim 9 = .ok (.sipush 10014, 3) := by decide +kernel
theorem dX2_readAim_12 : decode cX2_readAim 12 = .ok (.isub, 1) := by decide +kernel
theorem dX2_readAim_13 : decode cX2_readAim 13 = .ok (.istore_n 1, 1) := by decide +kernel
theorem dX2_readAim_14 : decode cX2_readAim 14 = .ok (.iload_n 1, 1) := by decide +kernel
theorem dX2_readAim_15 : decode cX2_readAim 15 = .ok (.iconst 0, 1) := by decide +kernel
theorem dX2_readAim_16 : decode cX2_readAim 16 = .ok (.iconst 2, 1) := by decide +kernel
theorem dX2_readAim_17 : decode cX2_readAim 17 = .ok (.invokestatic 35, 3) := by decide +kernel
theorem dX2_readAim_20 : decode cX2_readAim 20 = .ok (.ifCond .ne 5, 3) := by decide +kernel
theorem dX2_readAim_23 : decode cX2_readAim 23 = .ok (.iconst (-1), 1) := by decide +kernel
theorem dX2_readAim_24 : decode cX2_readAim 24 = .ok (.ireturn, 1) := by decide +kernel
theorem dX2_readAim_25 : decode cX2_readAim 25 = .ok (.aload_n 0, 1) := by decide +kernel
theorem dX2_readAim_26 : decode cX2_readAim 26 = .ok (.dup, 1) := by decide +kernel
theorem dX2_readAim_27 : decode cX2_readAim 27 = .ok (.getfield 26, 3) := by decide +kernel
theorem dX2_readAim_30 : decode cX2_readAim 30 = .ok (.iconst 1, 1) := by decide +kernel
theorem dX2_readAim_31 : decode cX2_readAim 31 = .ok (.iadd, 1) := by decide +kernel
theorem dX2_readAim_32 : decode cX2_readAim 32 = .ok (.putfield 26, 3) := by decide +kernel
theorem dX2_readAim_35 : decode cX2_readAim 35 = .ok (.iload_n 1, 1) := by decide +kernel
theorem dX2_readAim_36 : decode cX2_readAim 36 = .ok (.iconst 2, 1) := by decide +kernel
theorem dX2_readAim_37 : decode cX2_readAim 37 = .ok (.if_icmp .ne 11, 3) := by decide +kernel
theorem dX2_readAim_40 : decode cX2_readAim 40 = .ok (.iload_n 1, 1) := by decide +kernel
theorem dX2_readAim_41 : decode cX2_readAim 41 = .ok (.iconst 0, 1) := by decide +kernel
theorem dX2_readAim_42 : decode cX2_readAim 42 = .ok (.iconst 0, 1) := by decide +kernel
theorem dX2_readAim_43 : decode cX2_readAim 43 = .ok (.iconst 0, 1) := by decide +kernel
theorem dX2_readAim_44 : decode cX2_readAim 44 = .ok (.invokestatic 100, 3) := by decide +kernel
theorem dX2_readAim_47 : decode cX2_readAim 47 = .ok (.ireturn, 1) := by decide +kernel
theorem dX2_readAim_48 : decode cX2_readAim 48 = .ok (.aload_n 0, 1) := by decide +kernel
theorem dX2_readAim_49 : decode cX2_readAim 49 = .ok (.getfield 19, 3) := by decide +kernel
theorem dX2_readAim_52 : decode cX2_readAim 52 = .ok (.aload_n 0, 1) := by decide +kernel
theorem dX2_readAim_53 : decode cX2_readAim 53 = .ok (.getfield 26, 3) := by decide +kernel
theorem dX2_readAim_56 : decode cX2_readAim 56 = .ok (.iaload, 1) := by decide +kernel
theorem dX2_readAim_57 : decode cX2_readAim 57 = .ok (.sipush 10000, 3) := by decide +kernel
theorem dX2_readAim_60 : decode cX2_readAim 60 = .ok (.isub, 1) := by decide +kernel
theorem dX2_readAim_61 : decode cX2_readAim 61 = .ok (.bipush 8, 2) := by decide +kernel
theorem dX2_readAim_63 : decode cX2_readAim 63 = .ok (.isub, 1) := by decide +kernel
theorem dX2_readAim_64 : decode cX2_readAim 64 = .ok (.istore_n 2, 1) := by decide +kernel
theorem dX2_readAim_65 : decode cX2_readAim 65 = .ok (.iload_n 2, 1) := by decide +kernel
theorem dX2_readAim_66 : decode cX2_readAim 66 = .ok (.iconst 0, 1) := by decide +kernel
theorem dX2_readAim_67 : decode cX2_readAim 67 = .ok (.iconst 5, 1) := by decide +kernel
theorem dX2_readAim_68 : decode cX2_readAim 68 = .ok (.invokestatic 35, 3) := by decide +kernel
theorem dX2_readAim_71 : decode cX2_readAim 71 = .ok (.ifCond .ne 5, 3) := by decide +kernel
theorem dX2_readAim_74 : decode cX2_readAim 74 = .ok (.iconst (-1), 1) := by decide +kernel
theorem dX2_readAim_75 : decode cX2_readAim 75 = .ok (.ireturn, 1) := by decide +kernel
theorem dX2_readAim_76 : decode cX2_readAim 76 = .ok (.aload_n 0, 1) := by decide +kernel
theorem dX2_readAim_77 : decode cX2_readAim 77 = .ok (.dup, 1) := by decide +kernel
theorem dX2_readAim_78 : decode cX2_readAim 78 = .ok (.getfield 26, 3) := by decide +kernel
theorem dX2_readAim_81 : decode cX2_readAim 81 = .ok (.iconst 1, 1) := by decide +kernel
theorem dX2_readAim_82 : decode cX2_readAim 82 = .ok (.iadd, 1) := by decide +kernel
theorem dX2_readAim_83 : decode cX2_readAim 83 = .ok (.putfield 26, 3) := by decide +kernel
theorem dX2_readAim_86 : decode cX2_readAim 86 = .ok (.iconst 0, 1) := by decide +kernel
theorem dX2_readAim_87 : decode cX2_readAim 87 = .ok (.istore_n 3, 1) := by decide +kernel
theorem dX2_readAim_88 : decode cX2_readAim 88 = .ok (.iload_n 2, 1) := by decide +kernel
theorem dX2_readAim_89 : decode cX2_readAim 89 = .ok (.iconst 4, 1) := by decide +kernel
theorem dX2_readAim_90 : decode cX2_readAim 90 = .ok (.if_icmp .ne 13, 3) := by decide +kernel
theorem dX2_readAim_93 : decode cX2_readAim 93 = .ok (.aload_n 0, 1) := by decide +kernel
theorem dX2_readAim_94 : decode cX2_readAim 94 = .ok (.iconst 0, 1) := by decide +kernel
theorem dX2_readAim_95 : decode cX2_readAim 95 = .ok (.iconst 3, 1) := by decide +kernel
theorem dX2_readAim_96 : decode cX2_readAim 96 = .ok (.invokevirtual 104, 3) := by decide +kernel
theorem dX2_readAim_99 : decode cX2_readAim 99 = .ok (.istore_n 3, 1) := by decide +kernel
theorem dX2_readAim_100 : decode cX2_readAim 100 = .ok (.goto 16, 3) := by decide +kernel
theorem dX2_readAim_103 : decode cX2_readAim 103 = .ok (.iload_n 2, 1) := by decide +kernel
theorem dX2_readAim_104 : decode cX2_readAim 104 = .ok (.iconst 5, 1) := by decide +kernel
theorem dX2_readAim_105 : decode cX2_readAim 105 = .ok (.if_icmp .ne 11, 3) := by decide +kernel
theorem dX2_readAim_108 : decode cX2_readAim 108 = .ok (.aload_n 0, 1) := by decide +kernel
theorem dX2_readAim_109 : decode cX2_readAim 109 = .ok (.iconst 1, 1) := by decide +kernel
theorem dX2_readAim_110 : decode cX2_readAim 110 = .ok (.bipush 99, 2) := by decide +kernel
theorem dX2_readAim_112 : decode cX2_readAim 112 = .ok (.invokevirtual 104, 3) := by decide +kernel
theorem dX2_readAim_115 : decode cX2_readAim 115 = .ok (.istore_n 3, 1) := by decide +kernel
theorem dX2_readAim_116 : decode cX2_readAim 116 = .ok (.iload_n 3, 1) := by decide +kernel
theorem dX2_readAim_117 : decode cX2_readAim 117 = .ok (.iconst (-1), 1) := by decide +kernel
theorem dX2_readAim_118 : decode cX2_readAim 118 = .ok (.if_icmp .ne 5, 3) := by decide +kernel
theorem dX2_readAim_121 : decode cX2_readAim 121 = .ok (.iconst (-1), 1) := by decide +kernel
theorem dX2_readAim_122 : decode cX2_readAim 122 = .ok (.ireturn, 1) := by decide +kernel
theorem dX2_readAim_123 : decode cX2_readAim 123 = .ok (.aload_n 0, 1) := by decide +kernel
theorem dX2_readAim_124 : decode cX2_readAim 124 = .ok (.iconst 0, 1) := by decide +kernel
theorem dX2_readAim_125 : decode cX2_readAim 125 = .ok (.bipush 60, 2) := by decide +kernel
theorem dX2_readAim_127 : decode cX2_readAim 127 = .ok (.invokevirtual 104, 3) := by decide +kernel
theorem dX2_readAim_130 : decode cX2_readAim 130 = .ok (.istore 4, 2) := by decide +kernel
theorem dX2_readAim_132 : decode cX2_readAim 132 = .ok (.iload 4, 2) := by decide +kernel
theorem dX2_readAim_134 : decode cX2_readAim 134 = .ok (.iconst (-1), 1) := by decide +kernel
theorem dX2_readAim_135 : decode cX2_readAim 135 = .ok (.if_icmp .ne 7, 3) := by decide +kernel
theorem dX2_readAim_138 : decode cX2_readAim 138 = .ok (.iconst (-1), 1) := by decide +kernel
theorem dX2_readAim_139 : decode cX2_readAim 139 = .ok (.goto 11, 3) := by decide +kernel
theorem dX2_readAim_142 : decode cX2_readAim 142 = .ok (.iload_n 1, 1) := by decide +kernel
theorem dX2_readAim_143 : decode cX2_readAim 143 = .ok (.iload_n 2, 1) := by decide +kernel
theorem dX2_readAim_144 : decode cX2_readAim 144 = .ok (.iload_n 3, 1) := by decide +kernel
theorem dX2_readAim_145 : decode cX2_readAim 145 = .ok (.iload 4, 2) := by decide +kernel
theorem dX2_readAim_147 : decode cX2_readAim 147 = .ok (.invokestatic 100, 3) := by decide +kernel
theorem dX2_readAim_150 : decode cX2_readAim 150 = .ok (.ireturn, 1) := by decide +kernel
theorem dX2_readAny_0 : decode cX2_readAny 0 = .ok (.aload_n 0, 1) := by decide +kernel
theorem dX2_readAny_1 : decode cX2_readAny 1 = .ok (.iload_n 1, 1) := by decide +kernel
theorem dX2_readAny_2 : decode cX2_readAny 2 = .ok (.invokevirtual 107, 3) := by decide +kernel
theorem dX2_readAny_5 : decode cX2_readAny 5 = .ok (.istore_n 2, 1) := by decide +kernel
theorem dX2_readAny_6 : decode cX2_readAny 6 = .ok (.iconst 0, 1) := by decide +kernel
theorem dX2_readAny_7 : decode cX2_readAny 7 = .ok (.istore_n 3, 1) := by decide +kernel
theorem dX2_readAny_8 : decode cX2_readAny 8 = .ok (.iload_n 3, 1) := by decide +kernel
theorem dX2_readAny_9 : decode cX2_readAny 9 = .ok (.sipush 700, 3) := by decide +kernel
theorem dX2_readAny_12 : decode cX2_readAny 12 = .ok (.if_icmp .ge 35, 3) := by decide +kernel
theorem dX2_readAny_15 : decode cX2_readAny 15 = .ok (.iload_n 2, 1) := by decide +kernel
theorem dX2_readAny_16 : decode cX2_readAny 16 = .ok (.ifCond .eq 31, 3) := by decide +kernel
theorem dX2_readAny_19 : decode cX2_readAny 19 = .ok (.aload_n 0, 1) := by decide +kernel
theorem dX2_readAny_20 : decode cX2_readAny 20 = .ok (.sipush 10019, 3) := by decide +kernel
theorem dX2_readAny_23 : decode cX2_readAny 23 = .ok (.invokevirtual 94, 3) := by decide +kernel
theorem dX2_readAny_26 : decode cX2_readAny 26 = .ok (.ifCond .eq 21, 3) := by decide +kernel
theorem dX2_readAny_29 : decode cX2_readAny 29 = .ok (.aload_n 0, 1) := by decide +kernel
theorem dX2_readAny_30 : decode cX2_readAny 30 = .ok (.iload_n 1, 1) := by decide +kernel
theorem dX2_readAny_31 : decode cX2_readAny 31 = .ok (.invokevirtual 107, 3) := by decide +kernel
theorem dX2_readAny_34 : decode cX2_readAny 34 = .ok (.istore_n 2, 1) := by decide +kernel
theorem dX2_readAny_35 : decode cX2_readAny 35 = .ok (.aload_n 0, 1) := by decide +kernel
theorem dX2_readAny_36 : decode cX2_readAny 36 = .ok (.bipush (-3), 2) := by decide +kernel
theorem dX2_readAny_38 : decode cX2_readAny 38 = .ok (.invokevirtual 86, 3) := by decide +kernel
theorem dX2_readAny_41 : decode cX2_readAny 41 = .ok (.iinc 3 1, 3) := by decide +kernel
theorem dX2_readAny_44 : decode cX2_readAny 44 = .ok (.goto (-36), 3) := by decide +kernel
theorem dX2_readAny_47 : decode cX2_readAny 47 = .ok (.iload_n 2, 1) := by decide +kernel
theorem dX2_readAny_48 : decode cX2_readAny 48 = .ok (.ireturn, 1) := by decide +kernel
theorem dX2_readAll_0 : decode cX2_readAll 0 = .ok (.aload_n 0, 1) := by decide +kernel
theorem dX2_readAll_1 : decode cX2_readAll 1 = .ok (.iload_n 1, 1) := by decide +kernel
theorem dX2_readAll_2 : decode cX2_readAll 2 = .ok (.invokevirtual 110, 3) := by decide +kernel
theorem dX2_readAll_5 : decode cX2_readAll 5 = .ok (.istore_n 2, 1) := by decide +kernel
theorem dX2_readAll_6 : decode cX2_readAll 6 = .ok (.iconst 0, 1) := by decide +kernel
theorem dX2_readAll_7 : decode cX2_readAll 7 = .ok (.istore_n 3, 1) := by decide +kernel
theorem dX2_readAll_8 : decode cX2_readAll 8 = .ok (.iload_n 3, 1) := by decide +kernel
theorem dX2_readAll_9 : decode cX2_readAll 9 = .ok (.sipush 700, 3) := by decide +kernel
theorem dX2_readAll_12 : decode cX2_readAll 12 = .ok (.if_icmp .ge 35, 3) := by decide +kernel
theorem dX2_readAll_15 : decode cX2_readAll 15 = .ok (.iload_n 2, 1) := by decide +kernel
theorem dX2_readAll_16 : decode cX2_readAll 16 = .ok (.ifCond .eq 31, 3) := by decide +kernel
theorem dX2_readAll_19 : decode cX2_readAll 19 = .ok (.aload_n 0, 1) := by decide +kernel
theorem dX2_readAll_20 : decode cX2_readAll 20 = .ok (.sipush 10018, 3) := by decide +kernel
theorem dX2_readAll_23 : decode cX2_readAll 23 = .ok (.invokevirtual 94, 3) := by decide +kernel
theorem dX2_readAll_26 : decode cX2_readAll 26 = .ok (.ifCond .eq 21, 3) := by decide +kernel
theorem dX2_readAll_29 : decode cX2_readAll 29 = .ok (.aload_n 0, 1) := by decide +kernel
theorem dX2_readAll_30 : decode cX2_readAll 30 = .ok (.iload_n 1, 1) := by decide +kernel
theorem dX2_readAll_31 : decode cX2_readAll 31 = .ok (.invokevirtual 110, 3) := by decide +kernel
theorem dX2_readAll_34 : decode cX2_readAll 34 = .ok (.istore_n 2, 1) := by decide +kernel
theorem dX2_readAll_35 : decode cX2_readAll 35 = .ok (.aload_n 0, 1) := by decide +kernel
theorem dX2_readAll_36 : decode cX2_readAll 36 = .ok (.bipush (-2), 2) := by decide +kernel
theorem dX2_readAll_38 : decode cX2_readAll 38 = .ok (.invokevirtual 86, 3) := by decide +kernel
theorem dX2_readAll_41 : decode cX2_readAll 41 = .ok (.iinc 3 1, 3) := by decide +kernel
theorem dX2_readAll_44 : decode cX2_readAll 44 = .ok (.goto (-36), 3) := by decide +kernel
theorem dX2_readAll_47 : decode cX2_readAll 47 = .ok (.iload_n 2, 1) := by decide +kernel
theorem dX2_readAll_48 : decode cX2_readAll 48 = .ok (.ireturn, 1) := by decide +kernel
theorem dX2_readOne_0 : decode cX2_readOne 0 = .ok (.aload_n 0, 1) := by decide +kernel
theorem dX2_readOne_1 : decode cX2_readOne 1 = .ok (.getfield 19, 3) := by decide +kernel
theorem dX2_readOne_4 : decode cX2_readOne 4 = .ok (.aload_n 0, 1) := by decide +kernel
theorem dX2_readOne_5 : decode cX2_readOne 5 = .ok (.getfield 26, 3) := by decide +kernel
theorem dX2_readOne_8 : decode cX2_readOne 8 = .ok (.iaload, 1) := by decide +kernel
theorem dX2_readOne_9 : decode cX2_readOne 9 = .ok (.sipush 10020, 3) := by decide +kernel
theorem dX2_readOne_12 : decode cX2_readOne 12 = .ok (.if_icmp .ne 7, 3) := by decide +kernel
theorem dX2_readOne_15 : decode cX2_readOne 15 = .ok (.iconst 1, 1) := by decide +kernel
theorem dX2_readOne_16 : decode cX2_readOne 16 = .ok (.goto 4, 3) := by decide +kernel
theorem dX2_readOne_19 : decode cX2_readOne 19 = .ok (.iconst 0, 1) := by decide +kernel
theorem dX2_readOne_20 : decode cX2_readOne 20 = .ok (.istore_n 2, 1) := by decide +kernel
theorem dX2_readOne_21 : decode cX2_readOne 21 = .ok (.iload_n 2, 1) := by decide +kernel
theorem dX2_readOne_22 : decode cX2_readOne 22 = .ok (.ifCond .ne 23, 3) := by decide +kernel
theorem dX2_readOne_25 : decode cX2_readOne 25 = .ok (.aload_n 0, 1) := by decide +kernel
theorem dX2_readOne_26 : decode cX2_readOne 26 = .ok (.getfield 19, 3) := by decide +kernel
theorem dX2_readOne_29 : decode cX2_readOne 29 = .ok (.aload_n 0, 1) := by decide +kernel
theorem dX2_readOne_30 : decode cX2_readOne 30 = .ok (.getfield 26, 3) := by decide +kernel
theorem dX2_readOne_33 : decode cX2_readOne 33 = .ok (.iaload, 1) := by decide +kernel
theorem dX2_readOne_34 : decode cX2_readOne 34 = .ok (.sipush 20040, 3) := by decide +kernel
theorem dX2_readOne_37 : decode cX2_readOne 37 = .ok (.if_icmp .eq 8, 3) := by decide +kernel
theorem dX2_readOne_40 : decode cX2_readOne 40 = .ok (.aload_n 0, 1) := by decide +kernel
theorem dX2_readOne_41 : decode cX2_readOne 41 = .ok (.invokevirtual 113, 3) := by decide +kernel
theorem dX2_readOne_44 : decode cX2_readOne 44 = .ok (.ireturn, 1) := by decide +kernel
theorem dX2_readOne_45 : decode cX2_readOne 45 = .ok (.iload_n 1, 1) := by decide +kernel
theorem dX2_readOne_46 : decode cX2_readOne 46 = .ok (.bipush 8, 2) := by decide +kernel
theorem dX2_readOne_48 : decode cX2_readOne 48 = .ok (.if_icmp .lt 5, 3) := by decide +kernel
theorem dX2_readOne_51 : decode cX2_readOne 51 = .ok (.iconst 0, 1) := by decide +kernel
theorem dX2_readOne_52 : decode cX2_readOne 52 = .ok (.ireturn, 1) := by decide +kernel
theorem dX2_readOne_53 : decode cX2_readOne 53 = .ok (.aload_n 0, 1) := by decide +kernel
theorem dX2_readOne_54 : decode cX2_readOne 54 = .ok (.dup, 1) := by decide +kernel
theorem dX2_readOne_55 : decode cX2_readOne 55 = .ok (.getfield 26, 3) := by decide +kernel
theorem dX2_readOne_58 : decode cX2_readOne 58 = .ok (.iconst 1, 1) := by decide +kernel
theorem dX2_readOne_59 : decode cX2_readOne 59 = .ok (.iadd, 1) := by decide +kernel
theorem dX2_readOne_60 : decode cX2_readOne 60 = .ok (.putfield 26, 3) := by decide +kernel
theorem dX2_readOne_63 : decode cX2_readOne 63 = .ok (.iload_n 2, 1) := by decide +kernel
theorem dX2_readOne_64 : decode cX2_readOne 64 = .ok (.ifCond .eq 18, 3) := by decide +kernel
theorem dX2_readOne_67 : decode cX2_readOne 67 = .ok (.aload_n 0, 1) := by decide +kernel
theorem dX2_readOne_68 : decode cX2_readOne 68 = .ok (.iload_n 1, 1) := by decide +kernel
theorem dX2_readOne_69 : decode cX2_readOne 69 = .ok (.iconst 1, 1) := by decide +kernel
theorem dX2_readOne_70 : decode cX2_readOne 70 = .ok (.iadd, 1) := by decide +kernel
theorem dX2_readOne_71 : decode cX2_readOne 71 = .ok (.invokevirtual 110, 3) := by decide +kernel
theorem dX2_readOne_74 : decode cX2_readOne 74 = .ok (.istore_n 3, 1) := by decide +kernel
theorem dX2_readOne_75 : decode cX2_readOne 75 = .ok (.aload_n 0, 1) := by decide +kernel
theorem dX2_readOne_76 : decode cX2_readOne 76 = .ok (.iconst (-1), 1) := by decide +kernel
theorem dX2_readOne_77 : decode cX2_readOne 77 = .ok (.invokevirtual 86, 3) := by decide +kernel
theorem dX2_readOne_80 : decode cX2_readOne 80 = .ok (.iload_n 3, 1) := by decide +kernel
theorem dX2_readOne_81 : decode cX2_readOne 81 = .ok (.ireturn, 1) := by decide +kernel
theorem dX2_readOne_82 : decode cX2_readOne 82 = .ok (.aload_n 0, 1) := by decide +kernel
theorem dX2_readOne_83 : decode cX2_readOne 83 = .ok (.iload_n 1, 1) := by decide +kernel
theorem dX2_readOne_84 : decode cX2_readOne 84 = .ok (.iconst 1, 1) := by decide +kernel
theorem dX2_readOne_85 : decode cX2_readOne 85 = .ok (.iadd, 1) := by decide +kernel
theorem dX2_readOne_86 : decode cX2_readOne 86 = .ok (.invokevirtual 97, 3) := by decide +kernel
theorem dX2_readOne_89 : decode cX2_readOne 89 = .ok (.ifCond .eq 17, 3) := by decide +kernel
theorem dX2_readOne_92 : decode cX2_readOne 92 = .ok (.aload_n 0, 1) := by decide +kernel
theorem dX2_readOne_93 : decode cX2_readOne 93 = .ok (.sipush 20041, 3) := by decide +kernel
theorem dX2_readOne_96 : decode cX2_readOne 96 = .ok (.invokevirtual 94, 3) := by decide +kernel
theorem dX2_readOne_99 : decode cX2_readOne 99 = .ok (.ifCond .eq 7, 3) := by decide +kernel
theorem dX2_readOne_102 : decode cX2_readOne 102 = .ok (.iconst 1, 1) := by decide +kernel
theorem dX2_readOne_103 : decode cX2_readOne 103 = .ok (.goto 4, 3) := by decide +kernel
theorem dX2_readOne_106 : decode cX2_readOne 106 = .ok (.iconst 0, 1) := by decide +kernel
theorem dX2_readOne_107 : decode cX2_readOne 107 = .ok (.ireturn, 1) := by decide +kernel
theorem dX2_readComparison_0 : decode cX2_readComparison 0 = .ok (.aload_n 0, 1) := by decide +kernel
theorem dX2_readComparison_1 : decode cX2_readComparison 1 = .ok (.getfield 19, 3) := by decide +kernel
theorem dX2_readComparison_4 : decode cX2_readComparison 4 = .ok (.aload_n 0, 1) := by decide +kernel
theorem dX2_readComparison_5 : decode cX2_readComparison 5 = .ok (.getfield 26, 3) := by decide +kernel
theorem dX2_readComparison_8 : decode cX2_readComparison 8 = .ok (.iaload, 1) := by decide +kernel
theorem dX2_readComparison_9 : decode cX2_readComparison 9 = .ok (.sipush 10000, 3) := by decide +kernel
theorem dX2_readComparison_12 : decode cX2_readComparison 12 = .ok (.isub, 1) := by decide +kernel
theorem dX2_readComparison_13 : decode cX2_readComparison 13 = .ok (.istore_n 1, 1) := by decide +kernel
theorem dX2_readComparison_14 : decode cX2_readComparison 14 = .ok (.iload_n 1, 1) := by decide +kernel
theorem dX2_readComparison_15 : decode cX2_readComparison 15 = .ok (.iconst 0, 1) := by decide +kernel
theorem dX2_readComparison_16 : decode cX2_readComparison 16 = .ok (.bipush 11, 2) := by decide +kernel
theorem dX2_readComparison_18 : decode cX2_readComparison 18 = .ok (.invokestatic 35, 3) := by decide +kernel
theorem dX2_readComparison_21 : decode cX2_readComparison 21 = .ok (.ifCond .ne 5, 3) := by decide +kernel
theorem dX2_readComparison_24 : decode cX2_readComparison 24 = .ok (.iconst 0, 1) := by decide +kernel
theorem dX2_readComparison_25 : decode cX2_readComparison 25 = .ok (.ireturn, 1) := by decide +kernel
theorem dX2_readComparison_26 : decode cX2_readComparison 26 = .ok (.aload_n 0, 1) := by decide +kernel
theorem dX2_readComparison_27 : decode cX2_readComparison 27 = .ok (.dup, 1) := by decide +kernel
theorem dX2_readComparison_28 : decode cX2_readComparison 28 = .ok (.getfield 26, 3) := by decide +kernel
theorem dX2_readComparison_31 : decode cX2_readComparison 31 = .ok (.iconst 1, 1) := by decide +kernel
theorem dX2_readComparison_32 : decode cX2_readComparison 32 = .ok (.iadd, 1) := by decide +kernel
theorem dX2_readComparison_33 : decode cX2_readComparison 33 = .ok (.putfield 26, 3) := by decide +kernel
theorem dX2_readComparison_36 : decode cX2_readComparison 36 = .ok (.aload_n 0, 1) := by decide +kernel
theorem dX2_readComparison_37 : decode cX2_readComparison 37 = .ok (.getfield 19, 3) := by decide +kernel
theorem dX2_readComparison_40 : decode cX2_readComparison 40 = .ok (.aload_n 0, 1) := by decide +kernel
theorem dX2_readComparison_41 : decode cX2_readComparison 41 = .ok (.getfield 26, 3) := by decide +kernel
theorem dX2_readComparison_44 : decode cX2_readComparison 44 = .ok (.iaload, 1) := by decide +kernel
theorem dX2_readComparison_45 : decode cX2_readComparison 45 = .ok (.sipush 20000, 3) := by decide +kernel
theorem dX2_readComparison_48 : decode cX2_readComparison 48 = .ok (.isub, 1) := by decide +kernel
theorem dX2_readComparison_49 : decode cX2_readComparison 49 = .ok (.istore_n 2, 1) := by decide +kernel
theorem dX2_readComparison_50 : decode cX2_readComparison 50 = .ok (.iload_n 2, 1) := by decide +kernel
theorem dX2_readComparison_51 : decode cX2_readComparison 51 = .ok (.bipush 60, 2) := by decide +kernel
theorem dX2_readComparison_53 : decode cX2_readComparison 53 = .ok (.if_icmp .eq 17, 3) := by decide +kernel
theorem dX2_readComparison_56 : decode cX2_readComparison 56 = .ok (.iload_n 2, 1) := by decide +kernel
theorem dX2_readComparison_57 : decode cX2_readComparison 57 = .ok (.bipush 62, 2) := by decide +kernel
theorem dX2_readComparison_59 : decode cX2_readComparison 59 = .ok (.if_icmp .eq 11, 3) := by decide +kernel
theorem dX2_readComparison_62 : decode cX2_readComparison 62 = .ok (.iload_n 2, 1) := by decide +kernel
theorem dX2_readComparison_63 : decode cX2_readComparison 63 = .ok (.bipush 61, 2) := by decide +kernel
theorem dX2_readComparison_65 : decode cX2_readComparison 65 = .ok (.if_icmp .eq 5, 3) := by decide +kernel
theorem dX2_readComparison_68 : decode cX2_readComparison 68 = .ok (.iconst 0, 1) := by decide +kernel
theorem dX2_readComparison_69 : decode cX2_readComparison 69 = .ok (.ireturn, 1) := by decide +kernel
theorem dX2_readComparison_70 : decode cX2_readComparison 70 = .ok (.aload_n 0, 1) := by decide +kernel
theorem dX2_readComparison_71 : decode cX2_readComparison 71 = .ok (.dup, 1) := by decide +kernel
theorem dX2_readComparison_72 : decode cX2_readComparison 72 = .ok (.getfield 26, 3) := by decide +kernel
theorem dX2_readComparison_75 : decode cX2_readComparison 75 = .ok (.iconst 1, 1) := by decide +kernel
theorem dX2_readComparison_76 : decode cX2_readComparison 76 = .ok (.iadd, 1) := by decide +kernel
theorem dX2_readComparison_77 : decode cX2_readComparison 77 = .ok (.putfield 26, 3) := by decide +kernel
theorem dX2_readComparison_80 : decode cX2_readComparison 80 = .ok (.aload_n 0, 1) := by decide +kernel
theorem dX2_readComparison_81 : decode cX2_readComparison 81 = .ok (.iconst 0, 1) := by decide +kernel
theorem dX2_readComparison_82 : decode cX2_readComparison 82 = .ok (.sipush 9999, 3) := by decide +kernel
theorem dX2_readComparison_85 : decode cX2_readComparison 85 = .ok (.invokevirtual 104, 3) := by decide +kernel
theorem dX2_readComparison_88 : decode cX2_readComparison 88 = .ok (.istore_n 3, 1) := by decide +kernel
theorem dX2_readComparison_89 : decode cX2_readComparison 89 = .ok (.iload_n 3, 1) := by decide +kernel
theorem dX2_readComparison_90 : decode cX2_readComparison 90 = .ok (.iconst (-1), 1) := by decide +kernel
theorem dX2_readComparison_91 : decode cX2_readComparison 91 = .ok (.if_icmp .ne 5, 3) := by decide +kernel
theorem dX2_readComparison_94 : decode cX2_readComparison 94 = .ok (.iconst 0, 1) := by decide +kernel
theorem dX2_readComparison_95 : decode cX2_readComparison 95 = .ok (.ireturn, 1) := by decide +kernel
theorem dX2_readComparison_96 : decode cX2_readComparison 96 = .ok (.aload_n 0, 1) := by decide +kernel
theorem dX2_readComparison_97 : decode cX2_readComparison 97 = .ok (.iload_n 1, 1) := by decide +kernel
theorem dX2_readComparison_98 : decode cX2_readComparison 98 = .ok (.iload_n 2, 1) := by decide +kernel
theorem dX2_readComparison_99 : decode cX2_readComparison 99 = .ok (.iload_n 3, 1) := by decide +kernel
theorem dX2_readComparison_100 : decode cX2_readComparison 100 = .ok (.invokestatic 116, 3) := by decide +kernel
theorem dX2_readComparison_103 : decode cX2_readComparison 103 = .ok (.invokevirtual 86, 3) := by decide +kernel
theorem dX2_readComparison_106 : decode cX2_readComparison 106 = .ok (.iconst 1, 1) := by decide +kernel
theorem dX2_readComparison_107 : decode cX2_readComparison 107 = .ok (.ireturn, 1) := by decide +kernel
theorem dX2_readNumber_0 : decode cX2_readNumber 0 = .ok (.aload_n 0, 1) := by decide +kernel
theorem dX2_readNumber_1 : decode cX2_readNumber 1 = .ok (.getfield 19, 3) := by decide +kernel
theorem dX2_readNumber_4 : decode cX2_readNumber 4 = .ok (.aload_n 0, 1) := by decide +kernel
theorem dX2_readNumber_5 : decode cX2_readNumber 5 = .ok (.getfield 26, 3) := by decide +kernel
theorem dX2_readNumber_8 : decode cX2_readNumber 8 = .ok (.iaload, 1) := by decide +kernel
theorem dX2_readNumber_9 : decode cX2_readNumber 9 = .ok (.istore_n 3, 1) := by decide +kernel
theorem dX2_readNumber_10 : decode cX2_readNumber 10 = .ok (.iload_n 3, 1) := by decide +kernel
theorem dX2_readNumber_11 : decode cX2_readNumber 11 = .ok (.iload_n 1, 1) := by decide +kernel
theorem dX2_readNumber_12 : decode cX2_readNumber 12 = .ok (.if_icmp .lt 8, 3) := by decide +kernel
theorem dX2_readNumber_15 : decode cX2_readNumber 15 = .ok (.iload_n 3, 1) := by decide +kernel
theorem dX2_readNumber_16 : decode cX2_readNumber 16 = .ok (.iload_n 2, 1) := by decide +kernel
theorem dX2_readNumber_17 : decode cX2_readNumber 17 = .ok (.if_icmp .le 5, 3) := by decide +kernel
theorem dX2_readNumber_20 : decode cX2_readNumber 20 = .ok (.iconst (-1), 1) := by decide +kernel
theorem dX2_readNumber_21 : decode cX2_readNumber 21 = .ok (.ireturn, 1) := by decide +kernel
theorem dX2_readNumber_22 : decode cX2_readNumber 22 = .ok (.aload_n 0, 1) := by decide +kernel
theorem dX2_readNumber_23 : decode cX2_readNumber 23 = .ok (.dup, 1) := by decide +kernel
theorem dX2_readNumber_24 : decode cX2_readNumber 24 = .ok (.getfield 26, 3) := by decide +kernel
theorem dX2_readNumber_27 : decode cX2_readNumber 27 = .ok (.iconst 1, 1) := by decide +kernel
theorem dX2_readNumber_28 : decode cX2_readNumber 28 = .ok (.iadd, 1) := by decide +kernel
theorem dX2_readNumber_29 : decode cX2_readNumber 29 = .ok (.putfield 26, 3) := by decide +kernel
theorem dX2_readNumber_32 : decode cX2_readNumber 32 = .ok (.iload_n 3, 1) := by decide +kernel
theorem dX2_readNumber_33 : decode cX2_readNumber 33 = .ok (.ireturn, 1) := by decide +kernel
theorem dX2_takes_0 : decode cX2_takes 0 = .ok (.aload_n 0, 1) := by decide +kernel
theorem dX2_takes_1 : decode cX2_takes 1 = .ok (.getfield 19, 3) := by decide +kernel
theorem dX2_takes_4 : decode cX2_takes 4 = .ok (.aload_n 0, 1) := by decide +kernel
theorem dX2_takes_5 : decode cX2_takes 5 = .ok (.getfield 26, 3) := by decide +kernel
theorem dX2_takes_8 : decode cX2_takes 8 = .ok (.iaload, 1) := by decide +kernel
theorem dX2_takes_9 : decode cX2_takes 9 = .ok (.iload_n 1, 1) := by decide +kernel
theorem dX2_takes_10 : decode cX2_takes 10 = .ok (.if_icmp .eq 5, 3) := by decide +kernel
theorem dX2_takes_13 : decode cX2_takes 13 = .ok (.iconst 0, 1) := by decide +kernel
theorem dX2_takes_14 : decode cX2_takes 14 = .ok (.ireturn, 1) := by decide +kernel
theorem dX2_takes_15 : decode cX2_takes 15 = .ok (.aload_n 0, 1) := by decide +kernel
theorem dX2_takes_16 : decode cX2_takes 16 = .ok (.dup, 1) := by decide +kernel
theorem dX2_takes_17 : decode cX2_takes 17 = .ok (.getfield 26, 3) := by decide +kernel
theorem dX2_takes_20 : decode cX2_takes 20 = .ok (.iconst 1, 1) := by decide +kernel
theorem dX2_takes_21 : decode cX2_takes 21 = .ok (.iadd, 1) := by decide +kernel
theorem dX2_takes_22 : decode cX2_takes 22 = .ok (.putfield 26, 3) := by decide +kernel
theorem dX2_takes_25 : decode cX2_takes 25 = .ok (.iconst 1, 1) := by decide +kernel
theorem dX2_takes_26 : decode cX2_takes 26 = .ok (.ireturn, 1) := by decide +kernel
theorem dX2_put_0 : decode cX2_put 0 = .ok (.aload_n 0, 1) := by decide +kernel
theorem dX2_put_1 : decode cX2_put 1 = .ok (.getfield 32, 3) := by decide +kernel
theorem dX2_put_4 : decode cX2_put 4 = .ok (.aload_n 0, 1) := by decide +kernel
theorem dX2_put_5 : decode cX2_put 5 = .ok (.getfield 29, 3) := by decide +kernel
theorem dX2_put_8 : decode cX2_put 8 = .ok (.arraylength, 1) := by decide +kernel
theorem dX2_put_9 : decode cX2_put 9 = .ok (.if_icmp .ge 23, 3) := by decide +kernel
theorem dX2_put_12 : decode cX2_put 12 = .ok (.aload_n 0, 1) := by decide +kernel
theorem dX2_put_13 : decode cX2_put 13 = .ok (.getfield 29, 3) := by decide +kernel
theorem dX2_put_16 : decode cX2_put 16 = .ok (.aload_n 0, 1) := by decide +kernel
theorem dX2_put_17 : decode cX2_put 17 = .ok (.getfield 32, 3) := by decide +kernel
theorem dX2_put_20 : decode cX2_put 20 = .ok (.iload_n 1, 1) := by decide +kernel
theorem dX2_put_21 : decode cX2_put 21 = .ok (.iastore, 1) := by decide +kernel
theorem dX2_put_22 : decode cX2_put 22 = .ok (.aload_n 0, 1) := by decide +kernel
theorem dX2_put_23 : decode cX2_put 23 = .ok (.dup, 1) := by decide +kernel
theorem dX2_put_24 : decode cX2_put 24 = .ok (.getfield 32, 3) := by decide +kernel
theorem dX2_put_27 : decode cX2_put 27 = .ok (.iconst 1, 1) := by decide +kernel
theorem dX2_put_28 : decode cX2_put 28 = .ok (.iadd, 1) := by decide +kernel
theorem dX2_put_29 : decode cX2_put 29 = .ok (.putfield 32, 3) := by decide +kernel
theorem dX2_put_32 : decode cX2_put 32 = .ok (.return_, 1) := by decide +kernel
theorem dX3_init_0 : decode cX3_init 0 = .ok (.aload_n 0, 1) := by decide +kernel
theorem dX3_init_1 : decode cX3_init 1 = .ok (.invokespecial 3, 3) := by decide +kernel
theorem dX3_init_4 : decode cX3_init 4 = .ok (.aload_n 0, 1) := by decide +kernel
theorem dX3_init_5 : decode cX3_init 5 = .ok (.iconst 1, 1) := by decide +kernel
theorem dX3_init_6 : decode cX3_init 6 = .ok (.iload_n 1, 1) := by decide +kernel
theorem dX3_init_7 : decode cX3_init 7 = .ok (.invokestatic 9, 3) := by decide +kernel
theorem dX3_init_10 : decode cX3_init 10 = .ok (.putfield 15, 3) := by decide +kernel
theorem dX3_init_13 : decode cX3_init 13 = .ok (.aload_n 0, 1) := by decide +kernel
theorem dX3_init_14 : decode cX3_init 14 = .ok (.aload_n 0, 1) := by decide +kernel
theorem dX3_init_15 : decode cX3_init 15 = .ok (.getfield 15, 3) := by decide +kernel
theorem dX3_init_18 : decode cX3_init 18 = .ok (.bipush 16, 2) := by decide +kernel
theorem dX3_init_20 : decode cX3_init 20 = .ok (.imul, 1) := by decide +kernel
theorem dX3_init_21 : decode cX3_init 21 = .ok (.newarray .int, 2) := by decide +kernel
theorem dX3_init_23 : decode cX3_init 23 = .ok (.putfield 21, 3) := by decide +kernel
theorem dX3_init_26 : decode cX3_init 26 = .ok (.aload_n 0, 1) := by decide +kernel
theorem dX3_init_27 : decode cX3_init 27 = .ok (.aload_n 0, 1) := by decide +kernel
theorem dX3_init_28 : decode cX3_init 28 = .ok (.getfield 15, 3) := by decide +kernel
theorem dX3_init_31 : decode cX3_init 31 = .ok (.newarray .int, 2) := by decide +kernel
theorem dX3_init_33 : decode cX3_init 33 = .ok (.putfield 25, 3) := by decide +kernel
theorem dX3_init_36 : decode cX3_init 36 = .ok (.aload_n 0, 1) := by decide +kernel
theorem dX3_init_37 : decode cX3_init 37 = .ok (.aload_n 0, 1) := by decide +kernel
theorem dX3_init_38 : decode cX3_init 38 = .ok (.getfield 15, 3) := by decide +kernel
theorem dX3_init_41 : decode cX3_init 41 = .ok (.bipush 16, 2) := by decide +kernel
theorem dX3_init_43 : decode cX3_init 43 = .ok (.imul, 1) := by decide +kernel
theorem dX3_init_44 : decode cX3_init 44 = .ok (.newarray .int, 2) := by decide +kernel
theorem dX3_init_46 : decode cX3_init 46 = .ok (.putfield 28, 3) := by decide +kernel
theorem dX3_init_49 : decode cX3_init 49 = .ok (.aload_n 0, 1) := by decide +kernel
theorem dX3_init_50 : decode cX3_init 50 = .ok (.aload_n 0, 1) := by decide +kernel
theorem dX3_init_51 : decode cX3_init 51 = .ok (.getfield 15, 3) := by decide +kernel
theorem dX3_init_54 : decode cX3_init 54 = .ok (.iconst 4, 1) := by decide +kernel
theorem dX3_init_55 : decode cX3_init 55 = .ok (.imul, 1) := by decide +kernel
theorem dX3_init_56 : decode cX3_init 56 = .ok (.newarray .int, 2) := by decide +kernel
theorem dX3_init_58 : decode cX3_init 58 = .ok (.putfield 31, 3) := by decide +kernel
theorem dX3_init_61 : decode cX3_init 61 = .ok (.aload_n 0, 1) := by decide +kernel
theorem dX3_init_62 : decode cX3_init 62 = .ok (.aload_n 0, 1) := by decide +kernel
theorem dX3_init_63 : decode cX3_init 63 = .ok (.getfield 15, 3) := by decide +kernel
theorem dX3_init_66 : decode cX3_init 66 = .ok (.newarray .int, 2) := by decide +kernel
theorem dX3_init_68 : decode cX3_init 68 = .ok (.putfield 34, 3) := by decide +kernel
theorem dX3_init_71 : decode cX3_init 71 = .ok (.aload_n 0, 1) := by decide +kernel
theorem dX3_init_72 : decode cX3_init 72 = .ok (.getfield 31, 3) := by decide +kernel
theorem dX3_init_75 : decode cX3_init 75 = .ok (.iconst (-1), 1) := by decide +kernel
theorem dX3_init_76 : decode cX3_init 76 = .ok (.invokestatic 37, 3) := by decide +kernel
theorem dX3_init_79 : decode cX3_init 79 = .ok (.return_, 1) := by decide +kernel
theorem dX3_lengthOf_0 : decode cX3_lengthOf 0 = .ok (.aload_n 0, 1) := by decide +kernel
theorem dX3_lengthOf_1 : decode cX3_lengthOf 1 = .ok (.getfield 21, 3) := by decide +kernel
theorem dX3_lengthOf_4 : decode cX3_lengthOf 4 = .ok (.iload_n 2, 1) := by decide +kernel
theorem dX3_lengthOf_5 : decode cX3_lengthOf 5 = .ok (.bipush 16, 2) := by decide +kernel
theorem dX3_lengthOf_7 : decode cX3_lengthOf 7 = .ok (.imul, 1) := by decide +kernel
theorem dX3_lengthOf_8 : decode cX3_lengthOf 8 = .ok (.iload_n 1, 1) := by decide +kernel
theorem dX3_lengthOf_9 : decode cX3_lengthOf 9 = .ok (.iadd, 1) := by decide +kernel
theorem dX3_lengthOf_10 : decode cX3_lengthOf 10 = .ok (.iaload, 1) := by decide +kernel
theorem dX3_lengthOf_11 : decode cX3_lengthOf 11 = .ok (.ireturn, 1) := by decide +kernel
theorem dX3_shownBy_0 : decode cX3_shownBy 0 = .ok (.aload_n 0, 1) := by decide +kernel
theorem dX3_shownBy_1 : decode cX3_shownBy 1 = .ok (.getfield 31, 3) := by decide +kernel
theorem dX3_shownBy_4 : decode cX3_shownBy 4 = .ok (.iload_n 2, 1) := by decide +kernel
theorem dX3_shownBy_5 : decode cX3_shownBy 5 = .ok (.iconst 4, 1) := by decide +kernel
theorem dX3_shownBy_6 : decode cX3_shownBy 6 = .ok (.imul, 1) := by decide +kernel
theorem dX3_shownBy_7 : decode cX3_shownBy 7 = .ok (.iload_n 1, 1) := by decide +kernel
theorem dX3_shownBy_8 : decode cX3_shownBy 8 = .ok (.iadd, 1) := by decide +kernel
theorem dX3_shownBy_9 : decode cX3_shownBy 9 = .ok (.iaload, 1) := by decide +kernel
theorem dX3_shownBy_10 : decode cX3_shownBy 10 = .ok (.ireturn, 1) := by decide +kernel
theorem dX3_noteAsked_0 : decode cX3_noteAsked 0 = .ok (.aload_n 0, 1) := by decide +kernel
theorem dX3_noteAsked_1 : decode cX3_noteAsked 1 = .ok (.getfield 28, 3) := by decide +kernel
theorem dX3_noteAsked_4 : decode cX3_noteAsked 4 = .ok (.iload_n 2, 1) := by decide +kernel
theorem dX3_noteAsked_5 : decode cX3_noteAsked 5 = .ok (.bipush 16, 2) := by decide +kernel
theorem dX3_noteAsked_7 : decode cX3_noteAsked 7 = .ok (.imul, 1) := by decide +kernel
theorem dX3_noteAsked_8 : decode cX3_noteAsked 8 = .ok (.iload_n 1, 1) := by decide +kernel
theorem dX3_noteAsked_9 : decode cX3_noteAsked 9 = .ok (.iadd, 1) := by decide +kernel
theorem dX3_noteAsked_10 : decode cX3_noteAsked 10 = .ok (.iload_n 3, 1) := by decide +kernel
theorem dX3_noteAsked_11 : decode cX3_noteAsked 11 = .ok (.bipush 9, 2) := by decide +kernel
theorem dX3_noteAsked_13 : decode cX3_noteAsked 13 = .ok (.ishl, 1) := by decide +kernel
theorem dX3_noteAsked_14 : decode cX3_noteAsked 14 = .ok (.iload 4, 2) := by decide +kernel
theorem dX3_noteAsked_16 : decode cX3_noteAsked 16 = .ok (.ior, 1) := by decide +kernel
theorem dX3_noteAsked_17 : decode cX3_noteAsked 17 = .ok (.bipush 7, 2) := by decide +kernel
theorem dX3_noteAsked_19 : decode cX3_noteAsked 19 = .ok (.ishl, 1) := by decide +kernel
theorem dX3_noteAsked_20 : decode cX3_noteAsked 20 = .ok (.iload 5, 2) := by decide +kernel
theorem dX3_noteAsked_22 : decode cX3_noteAsked 22 = .ok (.ior, 1) := by decide +kernel
theorem dX3_noteAsked_23 : decode cX3_noteAsked 23 = .ok (.iastore, 1) := by decide +kernel
theorem dX3_noteAsked_24 : decode cX3_noteAsked 24 = .ok (.return_, 1) := by decide +kernel
theorem dX3_coinAsked_0 : decode cX3_coinAsked 0 = .ok (.aload_n 0, 1) := by decide +kernel
theorem dX3_coinAsked_1 : decode cX3_coinAsked 1 = .ok (.getfield 28, 3) := by decide +kernel
theorem dX3_coinAsked_4 : decode cX3_coinAsked 4 = .ok (.iload_n 2, 1) := by decide +kernel
theorem dX3_coinAsked_5 : decode cX3_coinAsked 5 = .ok (.bipush 16, 2) := by decide +kernel
theorem dX3_coinAsked_7 : decode cX3_coinAsked 7 = .ok (.imul, 1) := by decide +kernel
theorem dX3_coinAsked_8 : decode cX3_coinAsked 8 = .ok (.iload_n 1, 1) := by decide +kernel
theorem dX3_coinAsked_9 : decode cX3_coinAsked 9 = .ok (.iadd, 1) := by decide +kernel
theorem dX3_coinAsked_10 : decode cX3_coinAsked 10 = .ok (.iaload, 1) := by decide +kernel
theorem dX3_coinAsked_11 : decode cX3_coinAsked 11 = .ok (.bipush 16, 2) := by decide +kernel
theorem dX3_coinAsked_13 : decode cX3_coinAsked 13 = .ok (.ishr, 1) := by decide +kernel
theorem dX3_coinAsked_14 : decode cX3_coinAsked 14 = .ok (.ireturn, 1) := by decide +kernel
theorem dX3_wornAsked_0 : decode cX3_wornAsked 0 = .ok (.aload_n 0, 1) := by decide +kernel
theorem dX3_wornAsked_1 : decode cX3_wornAsked 1 = .ok (.getfield 28, 3) := by decide +kernel
theorem dX3_wornAsked_4 : decode cX3_wornAsked 4 = .ok (.iload_n 2, 1) := by decide +kernel
theorem dX3_wornAsked_5 : decode cX3_wornAsked 5 = .ok (.bipush 16, 2) := by decide +kernel
theorem dX3_wornAsked_7 : decode cX3_wornAsked 7 = .ok (.imul, 1) := by decide +kernel
theorem dX3_wornAsked_8 : decode cX3_wornAsked 8 = .ok (.iload_n 1, 1) := by decide +kernel
theorem dX3_wornAsked_9 : decode cX3_wornAsked 9 = .ok (.iadd, 1) := by decide +kernel
theorem dX3_wornAsked_10 : decode cX3_wornAsked 10 = .ok (.iaload, 1) := by decide +kernel
theorem dX3_wornAsked_11 : decode cX3_wornAsked 11 = .ok (.bipush 7, 2) := by decide +kernel
theorem dX3_wornAsked_13 : decode cX3_wornAsked 13 = .ok (.ishr, 1) := by decide +kernel
theorem dX3_wornAsked_14 : decode cX3_wornAsked 14 = .ok (.sipush 511, 3) := by decide +kernel
theorem dX3_wornAsked_17 : decode cX3_wornAsked 17 = .ok (.iand, 1) := by decide +kernel
theorem dX3_wornAsked_18 : decode cX3_wornAsked 18 = .ok (.ireturn, 1) := by decide +kernel
theorem dX3_chanceAsked_0 : decode cX3_chanceAsked 0 = .ok (.aload_n 0, 1) := by decide +kernel
theorem dX3_chanceAsked_1 : decode cX3_chanceAsked 1 = .ok (.getfield 28, 3) := by decide +kernel
theorem dX3_chanceAsked_4 : decode cX3_chanceAsked 4 = .ok (.iload_n 2, 1) := by decide +kernel
theorem dX3_chanceAsked_5 : decode cX3_chanceAsked 5 = .ok (.bipush 16, 2) := by decide +kernel
theorem dX3_chanceAsked_7 : decode cX3_chanceAsked 7 = .ok (.imul, 1) := by decide +kernel
theorem dX3_chanceAsked_8 : decode cX3_chanceAsked 8 = .ok (.iload_n 1, 1) := by decide +kernel
theorem dX3_chanceAsked_9 : decode cX3_chanceAsked 9 = .ok (.iadd, 1) := by decide +kernel
theorem dX3_chanceAsked_10 : decode cX3_chanceAsked 10 = .ok (.iaload, 1) := by decide +kernel
theorem dX3_chanceAsked_11 : decode cX3_chanceAsked 11 = .ok (.bipush 127, 2) := by decide +kernel
theorem dX3_chanceAsked_13 : decode cX3_chanceAsked 13 = .ok (.iand, 1) := by decide +kernel
theorem dX3_chanceAsked_14 : decode cX3_chanceAsked 14 = .ok (.ireturn, 1) := by decide +kernel
theorem dX3_carryOn_0 : decode cX3_carryOn 0 = .ok (.aload_n 0, 1) := by decide +kernel
theorem dX3_carryOn_1 : decode cX3_carryOn 1 = .ok (.getfield 34, 3) := by decide +kernel
theorem dX3_carryOn_4 : decode cX3_carryOn 4 = .ok (.iload_n 1, 1) := by decide +kernel
theorem dX3_carryOn_5 : decode cX3_carryOn 5 = .ok (.iconst 1, 1) := by decide +kernel
theorem dX3_carryOn_6 : decode cX3_carryOn 6 = .ok (.iadd, 1) := by decide +kernel
theorem dX3_carryOn_7 : decode cX3_carryOn 7 = .ok (.aload_n 0, 1) := by decide +kernel
theorem dX3_carryOn_8 : decode cX3_carryOn 8 = .ok (.getfield 34, 3) := by decide +kernel
theorem dX3_carryOn_11 : decode cX3_carryOn 11 = .ok (.iload_n 1, 1) := by decide +kernel
theorem dX3_carryOn_12 : decode cX3_carryOn 12 = .ok (.iaload, 1) := by decide +kernel
theorem dX3_carryOn_13 : decode cX3_carryOn 13 = .ok (.iastore, 1) := by decide +kernel
theorem dX3_carryOn_14 : decode cX3_carryOn 14 = .ok (.aload_n 0, 1) := by decide +kernel
theorem dX3_carryOn_15 : decode cX3_carryOn 15 = .ok (.getfield 31, 3) := by decide +kernel
theorem dX3_carryOn_18 : decode cX3_carryOn 18 = .ok (.iload_n 1, 1) := by decide +kernel
theorem dX3_carryOn_19 : decode cX3_carryOn 19 = .ok (.iconst 4, 1) := by decide +kernel
theorem dX3_carryOn_20 : decode cX3_carryOn 20 = .ok (.imul, 1) := by decide +kernel
theorem dX3_carryOn_21 : decode cX3_carryOn 21 = .ok (.aload_n 0, 1) := by decide +kernel
theorem dX3_carryOn_22 : decode cX3_carryOn 22 = .ok (.getfield 31, 3) := by decide +kernel
theorem dX3_carryOn_25 : decode cX3_carryOn 25 = .ok (.iload_n 1, 1) := by decide +kernel
theorem dX3_carryOn_26 : decode cX3_carryOn 26 = .ok (.iconst 1, 1) := by decide +kernel
theorem dX3_carryOn_27 : decode cX3_carryOn 27 = .ok (.iadd, 1) := by decide +kernel
theorem dX3_carryOn_28 : decode cX3_carryOn 28 = .ok (.iconst 4, 1) := by decide +kernel
theorem dX3_carryOn_29 : decode cX3_carryOn 29 = .ok (.imul, 1) := by decide +kernel
theorem dX3_carryOn_30 : decode cX3_carryOn 30 = .ok (.iconst 4, 1) := by decide +kernel
theorem dX3_carryOn_31 : decode cX3_carryOn 31 = .ok (.invokestatic 43, 3) := by decide +kernel
theorem dX3_carryOn_34 : decode cX3_carryOn 34 = .ok (.return_, 1) := by decide +kernel
theorem dX3_sameLengths_0 : decode cX3_sameLengths 0 = .ok (.aload_n 0, 1) := by decide +kernel
theorem dX3_sameLengths_1 : decode cX3_sameLengths 1 = .ok (.getfield 25, 3) := by decide +kernel
theorem dX3_sameLengths_4 : decode cX3_sameLengths 4 = .ok (.iload_n 1, 1) := by decide +kernel
theorem dX3_sameLengths_5 : decode cX3_sameLengths 5 = .ok (.iaload, 1) := by decide +kernel
theorem dX3_sameLengths_6 : decode cX3_sameLengths 6 = .ok (.aload_n 0, 1) := by decide +kernel
theorem dX3_sameLengths_7 : decode cX3_sameLengths 7 = .ok (.getfield 25, 3) := by decide +kernel
theorem dX3_sameLengths_10 : decode cX3_sameLengths 10 = .ok (.iload_n 2, 1) := by decide +kernel
theorem dX3_sameLengths_11 : decode cX3_sameLengths 11 = .ok (.iaload, 1) := by decide +kernel
theorem dX3_sameLengths_12 : decode cX3_sameLengths 12 = .ok (.if_icmp .eq 5, 3) := by decide +kernel
theorem dX3_sameLengths_15 : decode cX3_sameLengths 15 = .ok (.iconst 0, 1) := by decide +kernel
theorem dX3_sameLengths_16 : decode cX3_sameLengths 16 = .ok (.ireturn, 1) := by decide +kernel
theorem dX3_sameLengths_17 : decode cX3_sameLengths 17 = .ok (.iconst 0, 1) := by decide +kernel
theorem dX3_sameLengths_18 : decode cX3_sameLengths 18 = .ok (.istore 4, 2) := by decide +kernel
theorem dX3_sameLengths_20 : decode cX3_sameLengths 20 = .ok (.iload 4, 2) := by decide +kernel
theorem dX3_sameLengths_22 : decode cX3_sameLengths 22 = .ok (.iload_n 3, 1) := by decide +kernel
theorem dX3_sameLengths_23 : decode cX3_sameLengths 23 = .ok (.if_icmp .ge 28, 3) := by decide +kernel
theorem dX3_sameLengths_26 : decode cX3_sameLengths 26 = .ok (.aload_n 0, 1) := by decide +kernel
theorem dX3_sameLengths_27 : decode cX3_sameLengths 27 = .ok (.iload 4, 2) := by decide +kernel
theorem dX3_sameLengths_29 : decode cX3_sameLengths 29 = .ok (.iload_n 1, 1) := by decide +kernel
theorem dX3_sameLengths_30 : decode cX3_sameLengths 30 = .ok (.invokevirtual 49, 3) := by decide +kernel
theorem dX3_sameLengths_33 : decode cX3_sameLengths 33 = .ok (.aload_n 0, 1) := by decide +kernel
theorem dX3_sameLengths_34 : decode cX3_sameLengths 34 = .ok (.iload 4, 2) := by decide +kernel
theorem dX3_sameLengths_36 : decode cX3_sameLengths 36 = .ok (.iload_n 2, 1) := by decide +kernel
theorem dX3_sameLengths_37 : decode cX3_sameLengths 37 = .ok (.invokevirtual 49, 3) := by decide +kernel
theorem dX3_sameLengths_40 : decode cX3_sameLengths 40 = .ok (.if_icmp .eq 5, 3) := by decide +kernel
theorem dX3_sameLengths_43 : decode cX3_sameLengths 43 = .ok (.iconst 0, 1) := by decide +kernel
theorem dX3_sameLengths_44 : decode cX3_sameLengths 44 = .ok (.ireturn, 1) := by decide +kernel
theorem dX3_sameLengths_45 : decode cX3_sameLengths 45 = .ok (.iinc 4 1, 3) := by decide +kernel
theorem dX3_sameLengths_48 : decode cX3_sameLengths 48 = .ok (.goto (-28), 3) := by decide +kernel
theorem dX3_sameLengths_51 : decode cX3_sameLengths 51 = .ok (.iconst 1, 1) := by decide +kernel
theorem dX3_sameLengths_52 : decode cX3_sameLengths 52 = .ok (.ireturn, 1) := by decide +kernel
theorem dX3_copyOf_0 : decode cX3_copyOf 0 = .ok (.iload_n 2, 1) := by decide +kernel
theorem dX3_copyOf_1 : decode cX3_copyOf 1 = .ok (.aload_n 0, 1) := by decide +kernel
theorem dX3_copyOf_2 : decode cX3_copyOf 2 = .ok (.getfield 15, 3) := by decide +kernel
theorem dX3_copyOf_5 : decode cX3_copyOf 5 = .ok (.aload_n 1, 1) := by decide +kernel
theorem dX3_copyOf_6 : decode cX3_copyOf 6 = .ok (.getfield 15, 3) := by decide +kernel
theorem dX3_copyOf_9 : decode cX3_copyOf 9 = .ok (.invokestatic 52, 3) := by decide +kernel
theorem dX3_copyOf_12 : decode cX3_copyOf 12 = .ok (.invokestatic 52, 3) := by decide +kernel
theorem dX3_copyOf_15 : decode cX3_copyOf 15 = .ok (.istore_n 3, 1) := by decide +kernel
theorem dX3_copyOf_16 : decode cX3_copyOf 16 = .ok (.aload_n 1, 1) := by decide +kernel
theorem dX3_copyOf_17 : decode cX3_copyOf 17 = .ok (.getfield 21, 3) := by decide +kernel
theorem dX3_copyOf_20 : decode cX3_copyOf 20 = .ok (.iconst 0, 1) := by decide +kernel
theorem dX3_copyOf_21 : decode cX3_copyOf 21 = .ok (.aload_n 0, 1) := by decide +kernel
theorem dX3_copyOf_22 : decode cX3_copyOf 22 = .ok (.getfield 21, 3) := by decide +kernel
theorem dX3_copyOf_25 : decode cX3_copyOf 25 = .ok (.iconst 0, 1) := by decide +kernel
theorem dX3_copyOf_26 : decode cX3_copyOf 26 = .ok (.iload_n 3, 1) := by decide +kernel
theorem dX3_copyOf_27 : decode cX3_copyOf 27 = .ok (.bipush 16, 2) := by decide +kernel
theorem dX3_copyOf_29 : decode cX3_copyOf 29 = .ok (.imul, 1) := by decide +kernel
theorem dX3_copyOf_30 : decode cX3_copyOf 30 = .ok (.invokestatic 43, 3) := by decide +kernel
theorem dX3_copyOf_33 : decode cX3_copyOf 33 = .ok (.aload_n 1, 1) := by decide +kernel
theorem dX3_copyOf_34 : decode cX3_copyOf 34 = .ok (.getfield 25, 3) := by decide +kernel
theorem dX3_copyOf_37 : decode cX3_copyOf 37 = .ok (.iconst 0, 1) := by decide +kernel
theorem dX3_copyOf_38 : decode cX3_copyOf 38 = .ok (.aload_n 0, 1) := by decide +kernel
theorem dX3_copyOf_39 : decode cX3_copyOf 39 = .ok (.getfield 25, 3) := by decide +kernel
theorem dX3_copyOf_42 : decode cX3_copyOf 42 = .ok (.iconst 0, 1) := by decide +kernel
theorem dX3_copyOf_43 : decode cX3_copyOf 43 = .ok (.iload_n 3, 1) := by decide +kernel
theorem dX3_copyOf_44 : decode cX3_copyOf 44 = .ok (.invokestatic 43, 3) := by decide +kernel
theorem dX3_copyOf_47 : decode cX3_copyOf 47 = .ok (.aload_n 1, 1) := by decide +kernel
theorem dX3_copyOf_48 : decode cX3_copyOf 48 = .ok (.getfield 28, 3) := by decide +kernel
theorem dX3_copyOf_51 : decode cX3_copyOf 51 = .ok (.iconst 0, 1) := by decide +kernel
theorem dX3_copyOf_52 : decode cX3_copyOf 52 = .ok (.aload_n 0, 1) := by decide +kernel
theorem dX3_copyOf_53 : decode cX3_copyOf 53 = .ok (.getfield 28, 3) := by decide +kernel
theorem dX3_copyOf_56 : decode cX3_copyOf 56 = .ok (.iconst 0, 1) := by decide +kernel
theorem dX3_copyOf_57 : decode cX3_copyOf 57 = .ok (.iload_n 3, 1) := by decide +kernel
theorem dX3_copyOf_58 : decode cX3_copyOf 58 = .ok (.bipush 16, 2) := by decide +kernel
theorem dX3_copyOf_60 : decode cX3_copyOf 60 = .ok (.imul, 1) := by decide +kernel
theorem dX3_copyOf_61 : decode cX3_copyOf 61 = .ok (.invokestatic 43, 3) := by decide +kernel
theorem dX3_copyOf_64 : decode cX3_copyOf 64 = .ok (.aload_n 1, 1) := by decide +kernel
theorem dX3_copyOf_65 : decode cX3_copyOf 65 = .ok (.getfield 31, 3) := by decide +kernel
theorem dX3_copyOf_68 : decode cX3_copyOf 68 = .ok (.iconst 0, 1) := by decide +kernel
theorem dX3_copyOf_69 : decode cX3_copyOf 69 = .ok (.aload_n 0, 1) := by decide +kernel
theorem dX3_copyOf_70 : decode cX3_copyOf 70 = .ok (.getfield 31, 3) := by decide +kernel
theorem dX3_copyOf_73 : decode cX3_copyOf 73 = .ok (.iconst 0, 1) := by decide +kernel
theorem dX3_copyOf_74 : decode cX3_copyOf 74 = .ok (.iload_n 3, 1) := by decide +kernel
theorem dX3_copyOf_75 : decode cX3_copyOf 75 = .ok (.iconst 4, 1) := by decide +kernel
theorem dX3_copyOf_76 : decode cX3_copyOf 76 = .ok (.imul, 1) := by decide +kernel
theorem dX3_copyOf_77 : decode cX3_copyOf 77 = .ok (.invokestatic 43, 3) := by decide +kernel
theorem dX3_copyOf_80 : decode cX3_copyOf 80 = .ok (.aload_n 1, 1) := by decide +kernel
theorem dX3_copyOf_81 : decode cX3_copyOf 81 = .ok (.getfield 34, 3) := by decide +kernel
theorem dX3_copyOf_84 : decode cX3_copyOf 84 = .ok (.iconst 0, 1) := by decide +kernel
theorem dX3_copyOf_85 : decode cX3_copyOf 85 = .ok (.aload_n 0, 1) := by decide +kernel
theorem dX3_copyOf_86 : decode cX3_copyOf 86 = .ok (.getfield 34, 3) := by decide +kernel
theorem dX3_copyOf_89 : decode cX3_copyOf 89 = .ok (.iconst 0, 1) := by decide +kernel
theorem dX3_copyOf_90 : decode cX3_copyOf 90 = .ok (.iload_n 3, 1) := by decide +kernel
theorem dX3_copyOf_91 : decode cX3_copyOf 91 = .ok (.invokestatic 43, 3) := by decide +kernel
theorem dX3_copyOf_94 : decode cX3_copyOf 94 = .ok (.return_, 1) := by decide +kernel
theorem dX4_init_0 : decode cX4_init 0 = .ok (.aload_n 0, 1) := by decide +kernel
theorem dX4_init_1 : decode cX4_init 1 = .ok (.invokespecial 3, 3) := by decide +kernel
theorem dX4_init_4 : decode cX4_init 4 = .ok (.aload_n 0, 1) := by decide +kernel
theorem dX4_init_5 : decode cX4_init 5 = .ok (.iconst 0, 1) := by decide +kernel
theorem dX4_init_6 : decode cX4_init 6 = .ok (.putfield 9, 3) := by decide +kernel
theorem dX4_init_9 : decode cX4_init 9 = .ok (.aload_n 0, 1) := by decide +kernel
theorem dX4_init_10 : decode cX4_init 10 = .ok (.bipush 16, 2) := by decide +kernel
theorem dX4_init_12 : decode cX4_init 12 = .ok (.newarray .int, 2) := by decide +kernel
theorem dX4_init_14 : decode cX4_init 14 = .ok (.putfield 15, 3) := by decide +kernel
theorem dX4_init_17 : decode cX4_init 17 = .ok (.aload_n 0, 1) := by decide +kernel
theorem dX4_init_18 : decode cX4_init 18 = .ok (.bipush 16, 2) := by decide +kernel
theorem dX4_init_20 : decode cX4_init 20 = .ok (.newarray .int, 2) := by decide +kernel
theorem dX4_init_22 : decode cX4_init 22 = .ok (.putfield 19, 3) := by decide +kernel
theorem dX4_init_25 : decode cX4_init 25 = .ok (.aload_n 0, 1) := by decide +kernel
theorem dX4_init_26 : decode cX4_init 26 = .ok (.bipush 16, 2) := by decide +kernel
theorem dX4_init_28 : decode cX4_init 28 = .ok (.newarray .int, 2) := by decide +kernel
theorem dX4_init_30 : decode cX4_init 30 = .ok (.putfield 22, 3) := by decide +kernel
theorem dX4_init_33 : decode cX4_init 33 = .ok (.aload_n 0, 1) := by decide +kernel
theorem dX4_init_34 : decode cX4_init 34 = .ok (.bipush 16, 2) := by decide +kernel
theorem dX4_init_36 : decode cX4_init 36 = .ok (.newarray .int, 2) := by decide +kernel
theorem dX4_init_38 : decode cX4_init 38 = .ok (.putfield 25, 3) := by decide +kernel
theorem dX4_init_41 : decode cX4_init 41 = .ok (.aload_n 0, 1) := by decide +kernel
theorem dX4_init_42 : decode cX4_init 42 = .ok (.bipush 16, 2) := by decide +kernel
theorem dX4_init_44 : decode cX4_init 44 = .ok (.newarray .int, 2) := by decide +kernel
theorem dX4_init_46 : decode cX4_init 46 = .ok (.putfield 28, 3) := by decide +kernel
theorem dX4_init_49 : decode cX4_init 49 = .ok (.aload_n 0, 1) := by decide +kernel
theorem dX4_init_50 : decode cX4_init 50 = .ok (.bipush 96, 2) := by decide +kernel
theorem dX4_init_52 : decode cX4_init 52 = .ok (.newarray .int, 2) := by decide +kernel
theorem dX4_init_54 : decode cX4_init 54 = .ok (.putfield 31, 3) := by decide +kernel
theorem dX4_init_57 : decode cX4_init 57 = .ok (.return_, 1) := by decide +kernel
theorem dX4_isEmpty_0 : decode cX4_isEmpty 0 = .ok (.aload_n 0, 1) := by decide +kernel
theorem dX4_isEmpty_1 : decode cX4_isEmpty 1 = .ok (.getfield 9, 3) := by decide +kernel
theorem dX4_isEmpty_4 : decode cX4_isEmpty 4 = .ok (.ifCond .ne 7, 3) := by decide +kernel
theorem dX4_isEmpty_7 : decode cX4_isEmpty 7 = .ok (.iconst 1, 1) := by decide +kernel
theorem dX4_isEmpty_8 : decode cX4_isEmpty 8 = .ok (.goto 4, 3) := by decide +kernel
theorem dX4_isEmpty_11 : decode cX4_isEmpty 11 = .ok (.iconst 0, 1) := by decide +kernel
theorem dX4_isEmpty_12 : decode cX4_isEmpty 12 = .ok (.ireturn, 1) := by decide +kernel
theorem dX4_has_0 : decode cX4_has 0 = .ok (.iload_n 1, 1) := by decide +kernel
theorem dX4_has_1 : decode cX4_has 1 = .ok (.iconst 0, 1) := by decide +kernel
theorem dX4_has_2 : decode cX4_has 2 = .ok (.aload_n 0, 1) := by decide +kernel
theorem dX4_has_3 : decode cX4_has 3 = .ok (.getfield 9, 3) := by decide +kernel
theorem dX4_has_6 : decode cX4_has 6 = .ok (.iconst 1, 1) := by decide +kernel
theorem dX4_has_7 : decode cX4_has 7 = .ok (.isub, 1) := by decide +kernel
theorem dX4_has_8 : decode cX4_has 8 = .ok (.invokestatic 34, 3) := by decide +kernel
theorem dX4_has_11 : decode cX4_has 11 = .ok (.ireturn, 1) := by decide +kernel
theorem dX4_join_0 : decode cX4_join 0 = .ok (.aload_n 0, 1) := by decide +kernel
theorem dX4_join_1 : decode cX4_join 1 = .ok (.getfield 9, 3) := by decide +kernel
theorem dX4_join_4 : decode cX4_join 4 = .ok (.bipush 16, 2) := by decide +kernel
theorem dX4_join_6 : decode cX4_join 6 = .ok (.if_icmp .lt 5, 3) := by decide +kernel
theorem dX4_join_9 : decode cX4_join 9 = .ok (.iconst (-1), 1) := by decide +kernel
theorem dX4_join_10 : decode cX4_join 10 = .ok (.ireturn, 1) := by decide +kernel
theorem dX4_join_11 : decode cX4_join 11 = .ok (.aload_n 0, 1) := by decide +kernel
theorem dX4_join_12 : decode cX4_join 12 = .ok (.getfield 9, 3) := by decide +kernel
theorem dX4_join_15 : decode cX4_join 15 = .ok (.istore_n 3, 1) := by decide +kernel
theorem dX4_join_16 : decode cX4_join 16 = .ok (.aload_n 0, 1) := by decide +kernel
theorem dX4_join_17 : decode cX4_join 17 = .ok (.dup, 1) := by decide +kernel
theorem dX4_join_18 : decode cX4_join 18 = .ok (.getfield 9, 3) := by decide +kernel
theorem dX4_join_21 : decode cX4_join 21 = .ok (.iconst 1, 1) := by decide +kernel
theorem dX4_join_22 : decode cX4_join 22 = .ok (.iadd, 1) := by decide +kernel
theorem dX4_join_23 : decode cX4_join 23 = .ok (.putfield 9, 3) := by decide +kernel
theorem dX4_join_26 : decode cX4_join 26 = .ok (.aload_n 0, 1) := by decide +kernel
theorem dX4_join_27 : decode cX4_join 27 = .ok (.getfield 15, 3) := by decide +kernel
theorem dX4_join_30 : decode cX4_join 30 = .ok (.iload_n 3, 1) := by decide +kernel
theorem dX4_join_31 : decode cX4_join 31 = .ok (.iload_n 1, 1) := by decide +kernel
theorem dX4_join_32 : decode cX4_join 32 = .ok (.iastore, 1) := by decide +kernel
theorem dX4_join_33 : decode cX4_join 33 = .ok (.aload_n 0, 1) := by decide +kernel
theorem dX4_join_34 : decode cX4_join 34 = .ok (.getfield 19, 3) := by decide +kernel
theorem dX4_join_37 : decode cX4_join 37 = .ok (.iload_n 3, 1) := by decide +kernel
theorem dX4_join_38 : decode cX4_join 38 = .ok (.iload_n 2, 1) := by decide +kernel
theorem dX4_join_39 : decode cX4_join 39 = .ok (.iastore, 1) := by decide +kernel
theorem dX4_join_40 : decode cX4_join 40 = .ok (.aload_n 0, 1) := by decide +kernel
theorem dX4_join_41 : decode cX4_join 41 = .ok (.getfield 22, 3) := by decide +kernel
theorem dX4_join_44 : decode cX4_join 44 = .ok (.iload_n 3, 1) := by decide +kernel
theorem dX4_join_45 : decode cX4_join 45 = .ok (.iconst 0, 1) := by decide +kernel
theorem dX4_join_46 : decode cX4_join 46 = .ok (.iastore, 1) := by decide +kernel
theorem dX4_join_47 : decode cX4_join 47 = .ok (.aload_n 0, 1) := by decide +kernel
theorem dX4_join_48 : decode cX4_join 48 = .ok (.getfield 25, 3) := by decide +kernel
theorem dX4_join_51 : decode cX4_join 51 = .ok (.iload_n 3, 1) := by decide +kernel
theorem dX4_join_52 : decode cX4_join 52 = .ok (.iconst 0, 1) := by decide +kernel
theorem dX4_join_53 : decode cX4_join 53 = .ok (.iastore, 1) := by decide +kernel
theorem dX4_join_54 : decode cX4_join 54 = .ok (.aload_n 0, 1) := by decide +kernel
theorem dX4_join_55 : decode cX4_join 55 = .ok (.getfield 28, 3) := by decide +kernel
theorem dX4_join_58 : decode cX4_join 58 = .ok (.iload_n 3, 1) := by decide +kernel
theorem dX4_join_59 : decode cX4_join 59 = .ok (.iconst 0, 1) := by decide +kernel
theorem dX4_join_60 : decode cX4_join 60 = .ok (.iastore, 1) := by decide +kernel
theorem dX4_join_61 : decode cX4_join 61 = .ok (.iconst 0, 1) := by decide +kernel
theorem dX4_join_62 : decode cX4_join 62 = .ok (.istore 4, 2) := by decide +kernel
theorem dX4_join_64 : decode cX4_join 64 = .ok (.iload 4, 2) := by decide +kernel
theorem dX4_join_66 : decode cX4_join 66 = .ok (.bipush 6, 2) := by decide +kernel
theorem dX4_join_68 : decode cX4_join 68 = .ok (.if_icmp .ge 22, 3) := by decide +kernel
theorem dX4_join_71 : decode cX4_join 71 = .ok (.aload_n 0, 1) := by decide +kernel
theorem dX4_join_72 : decode cX4_join 72 = .ok (.getfield 31, 3) := by decide +kernel
theorem dX4_join_75 : decode cX4_join 75 = .ok (.iload_n 3, 1) := by decide +kernel
theorem dX4_join_76 : decode cX4_join 76 = .ok (.bipush 6, 2) := by decide +kernel
theorem dX4_join_78 : decode cX4_join 78 = .ok (.imul, 1) := by decide +kernel
theorem dX4_join_79 : decode cX4_join 79 = .ok (.iload 4, 2) := by decide +kernel
theorem dX4_join_81 : decode cX4_join 81 = .ok (.iadd, 1) := by decide +kernel
theorem dX4_join_82 : decode cX4_join 82 = .ok (.iconst 0, 1) := by decide +kernel
theorem dX4_join_83 : decode cX4_join 83 = .ok (.iastore, 1) := by decide +kernel
theorem dX4_join_84 : decode cX4_join 84 = .ok (.iinc 4 1, 3) := by decide +kernel
theorem dX4_join_87 : decode cX4_join 87 = .ok (.goto (-23), 3) := by decide +kernel
theorem dX4_join_90 : decode cX4_join 90 = .ok (.iload_n 3, 1) := by decide +kernel
theorem dX4_join_91 : decode cX4_join 91 = .ok (.ireturn, 1) := by decide +kernel
theorem dX4_tell_0 : decode cX4_tell 0 = .ok (.aload_n 0, 1) := by decide +kernel
theorem dX4_tell_1 : decode cX4_tell 1 = .ok (.getfield 31, 3) := by decide +kernel
theorem dX4_tell_4 : decode cX4_tell 4 = .ok (.iload_n 1, 1) := by decide +kernel
theorem dX4_tell_5 : decode cX4_tell 5 = .ok (.bipush 6, 2) := by decide +kernel
theorem dX4_tell_7 : decode cX4_tell 7 = .ok (.imul, 1) := by decide +kernel
theorem dX4_tell_8 : decode cX4_tell 8 = .ok (.iload_n 2, 1) := by decide +kernel
theorem dX4_tell_9 : decode cX4_tell 9 = .ok (.iadd, 1) := by decide +kernel
theorem dX4_tell_10 : decode cX4_tell 10 = .ok (.bipush 10, 2) := by decide +kernel
theorem dX4_tell_12 : decode cX4_tell 12 = .ok (.isub, 1) := by decide +kernel
theorem dX4_tell_13 : decode cX4_tell 13 = .ok (.dup2, 1) := by decide +kernel
theorem dX4_tell_14 : decode cX4_tell 14 = .ok (.iaload, 1) := by decide +kernel
theorem dX4_tell_15 : decode cX4_tell 15 = .ok (.iconst 1, 1) := by decide +kernel
theorem dX4_tell_16 : decode cX4_tell 16 = .ok (.iadd, 1) := by decide +kernel
theorem dX4_tell_17 : decode cX4_tell 17 = .ok (.iastore, 1) := by decide +kernel
theorem dX4_tell_18 : decode cX4_tell 18 = .ok (.return_, 1) := by decide +kernel
theorem dX4_copyOf_0 : decode cX4_copyOf 0 = .ok (.aload_n 0, 1) := by decide +kernel
theorem dX4_copyOf_1 : decode cX4_copyOf 1 = .ok (.aload_n 1, 1) := by decide +kernel
theorem dX4_copyOf_2 : decode cX4_copyOf 2 = .ok (.getfield 9, 3) := by decide +kernel
theorem dX4_copyOf_5 : decode cX4_copyOf 5 = .ok (.putfield 9, 3) := by decide +kernel
theorem dX4_copyOf_8 : decode cX4_copyOf 8 = .ok (.aload_n 1, 1) := by decide +kernel
theorem dX4_copyOf_9 : decode cX4_copyOf 9 = .ok (.getfield 15, 3) := by decide +kernel
theorem dX4_copyOf_12 : decode cX4_copyOf 12 = .ok (.iconst 0, 1) := by decide +kernel
theorem dX4_copyOf_13 : decode cX4_copyOf 13 = .ok (.aload_n 0, 1) := by decide +kernel
theorem dX4_copyOf_14 : decode cX4_copyOf 14 = .ok (.getfield 15, 3) := by decide +kernel
theorem dX4_copyOf_17 : decode cX4_copyOf 17 = .ok (.iconst 0, 1) := by decide +kernel
theorem dX4_copyOf_18 : decode cX4_copyOf 18 = .ok (.aload_n 0, 1) := by decide +kernel
theorem dX4_copyOf_19 : decode cX4_copyOf 19 = .ok (.getfield 9, 3) := by decide +kernel
theorem dX4_copyOf_22 : decode cX4_copyOf 22 = .ok (.invokestatic 38, 3) := by decide +kernel
theorem dX4_copyOf_25 : decode cX4_copyOf 25 = .ok (.aload_n 1, 1) := by decide +kernel
theorem dX4_copyOf_26 : decode cX4_copyOf 26 = .ok (.getfield 19, 3) := by decide +kernel
theorem dX4_copyOf_29 : decode cX4_copyOf 29 = .ok (.iconst 0, 1) := by decide +kernel
theorem dX4_copyOf_30 : decode cX4_copyOf 30 = .ok (.aload_n 0, 1) := by decide +kernel
theorem dX4_copyOf_31 : decode cX4_copyOf 31 = .ok (.getfield 19, 3) := by decide +kernel
theorem dX4_copyOf_34 : decode cX4_copyOf 34 = .ok (.iconst 0, 1) := by decide +kernel
theorem dX4_copyOf_35 : decode cX4_copyOf 35 = .ok (.aload_n 0, 1) := by decide +kernel
theorem dX4_copyOf_36 : decode cX4_copyOf 36 = .ok (.getfield 9, 3) := by decide +kernel
theorem dX4_copyOf_39 : decode cX4_copyOf 39 = .ok (.invokestatic 38, 3) := by decide +kernel
theorem dX4_copyOf_42 : decode cX4_copyOf 42 = .ok (.aload_n 1, 1) := by decide +kernel
theorem dX4_copyOf_43 : decode cX4_copyOf 43 = .ok (.getfield 22, 3) := by decide +kernel
theorem dX4_copyOf_46 : decode cX4_copyOf 46 = .ok (.iconst 0, 1) := by decide +kernel
theorem dX4_copyOf_47 : decode cX4_copyOf 47 = .ok (.aload_n 0, 1) := by decide +kernel
theorem dX4_copyOf_48 : decode cX4_copyOf 48 = .ok (.getfield 22, 3) := by decide +kernel
theorem dX4_copyOf_51 : decode cX4_copyOf 51 = .ok (.iconst 0, 1) := by decide +kernel
theorem dX4_copyOf_52 : decode cX4_copyOf 52 = .ok (.aload_n 0, 1) := by decide +kernel
theorem dX4_copyOf_53 : decode cX4_copyOf 53 = .ok (.getfield 9, 3) := by decide +kernel
theorem dX4_copyOf_56 : decode cX4_copyOf 56 = .ok (.invokestatic 38, 3) := by decide +kernel
theorem dX4_copyOf_59 : decode cX4_copyOf 59 = .ok (.aload_n 1, 1) := by decide +kernel
theorem dX4_copyOf_60 : decode cX4_copyOf 60 = .ok (.getfield 25, 3) := by decide +kernel
theorem dX4_copyOf_63 : decode cX4_copyOf 63 = .ok (.iconst 0, 1) := by decide +kernel
theorem dX4_copyOf_64 : decode cX4_copyOf 64 = .ok (.aload_n 0, 1) := by decide +kernel
theorem dX4_copyOf_65 : decode cX4_copyOf 65 = .ok (.getfield 25, 3) := by decide +kernel
theorem dX4_copyOf_68 : decode cX4_copyOf 68 = .ok (.iconst 0, 1) := by decide +kernel
theorem dX4_copyOf_69 : decode cX4_copyOf 69 = .ok (.aload_n 0, 1) := by decide +kernel
theorem dX4_copyOf_70 : decode cX4_copyOf 70 = .ok (.getfield 9, 3) := by decide +kernel
theorem dX4_copyOf_73 : decode cX4_copyOf 73 = .ok (.invokestatic 38, 3) := by decide +kernel
theorem dX4_copyOf_76 : decode cX4_copyOf 76 = .ok (.aload_n 1, 1) := by decide +kernel
theorem dX4_copyOf_77 : decode cX4_copyOf 77 = .ok (.getfield 28, 3) := by decide +kernel
theorem dX4_copyOf_80 : decode cX4_copyOf 80 = .ok (.iconst 0, 1) := by decide +kernel
theorem dX4_copyOf_81 : decode cX4_copyOf 81 = .ok (.aload_n 0, 1) := by decide +kernel
theorem dX4_copyOf_82 : decode cX4_copyOf 82 = .ok (.getfield 28, 3) := by decide +kernel
theorem dX4_copyOf_85 : decode cX4_copyOf 85 = .ok (.iconst 0, 1) := by decide +kernel
theorem dX4_copyOf_86 : decode cX4_copyOf 86 = .ok (.aload_n 0, 1) := by decide +kernel
theorem dX4_copyOf_87 : decode cX4_copyOf 87 = .ok (.getfield 9, 3) := by decide +kernel
theorem dX4_copyOf_90 : decode cX4_copyOf 90 = .ok (.invokestatic 38, 3) := by decide +kernel
theorem dX4_copyOf_93 : decode cX4_copyOf 93 = .ok (.aload_n 1, 1) := by decide +kernel
theorem dX4_copyOf_94 : decode cX4_copyOf 94 = .ok (.getfield 31, 3) := by decide +kernel
theorem dX4_copyOf_97 : decode cX4_copyOf 97 = .ok (.iconst 0, 1) := by decide +kernel
theorem dX4_copyOf_98 : decode cX4_copyOf 98 = .ok (.aload_n 0, 1) := by decide +kernel
theorem dX4_copyOf_99 : decode cX4_copyOf 99 = .ok (.getfield 31, 3) := by decide +kernel
theorem dX4_copyOf_102 : decode cX4_copyOf 102 = .ok (.iconst 0, 1) := by decide +kernel
theorem dX4_copyOf_103 : decode cX4_copyOf 103 = .ok (.aload_n 0, 1) := by decide +kernel
theorem dX4_copyOf_104 : decode cX4_copyOf 104 = .ok (.getfield 9, 3) := by decide +kernel
theorem dX4_copyOf_107 : decode cX4_copyOf 107 = .ok (.bipush 6, 2) := by decide +kernel
theorem dX4_copyOf_109 : decode cX4_copyOf 109 = .ok (.imul, 1) := by decide +kernel
theorem dX4_copyOf_110 : decode cX4_copyOf 110 = .ok (.invokestatic 38, 3) := by decide +kernel
theorem dX4_copyOf_113 : decode cX4_copyOf 113 = .ok (.return_, 1) := by decide +kernel
theorem dX4_streetOf_0 : decode cX4_streetOf 0 = .ok (.iconst 1, 1) := by decide +kernel
theorem dX4_streetOf_1 : decode cX4_streetOf 1 = .ok (.iload_n 1, 1) := by decide +kernel
theorem dX4_streetOf_2 : decode cX4_streetOf 2 = .ok (.ishl, 1) := by decide +kernel
theorem dX4_streetOf_3 : decode cX4_streetOf 3 = .ok (.istore_n 2, 1) := by decide +kernel
theorem dX4_streetOf_4 : decode cX4_streetOf 4 = .ok (.iconst 0, 1) := by decide +kernel
theorem dX4_streetOf_5 : decode cX4_streetOf 5 = .ok (.istore_n 3, 1) := by decide +kernel
theorem dX4_streetOf_6 : decode cX4_streetOf 6 = .ok (.iload_n 3, 1) := by decide +kernel
theorem dX4_streetOf_7 : decode cX4_streetOf 7 = .ok (.aload_n 0, 1) := by decide +kernel
theorem dX4_streetOf_8 : decode cX4_streetOf 8 = .ok (.getfield 9, 3) := by decide +kernel
theorem dX4_streetOf_11 : decode cX4_streetOf 11 = .ok (.if_icmp .ge 27, 3) := by decide +kernel
theorem dX4_streetOf_14 : decode cX4_streetOf 14 = .ok (.aload_n 0, 1) := by decide +kernel
theorem dX4_streetOf_15 : decode cX4_streetOf 15 = .ok (.iload_n 2, 1) := by decide +kernel
theorem dX4_streetOf_16 : decode cX4_streetOf 16 = .ok (.invokevirtual 44, 3) := by decide +kernel
theorem dX4_streetOf_19 : decode cX4_streetOf 19 = .ok (.istore 4, 2) := by decide +kernel
theorem dX4_streetOf_21 : decode cX4_streetOf 21 = .ok (.iload 4, 2) := by decide +kernel
theorem dX4_streetOf_23 : decode cX4_streetOf 23 = .ok (.iload_n 2, 1) := by decide +kernel
theorem dX4_streetOf_24 : decode cX4_streetOf 24 = .ok (.if_icmp .ne 5, 3) := by decide +kernel
theorem dX4_streetOf_27 : decode cX4_streetOf 27 = .ok (.iload_n 2, 1) := by decide +kernel
theorem dX4_streetOf_28 : decode cX4_streetOf 28 = .ok (.ireturn, 1) := by decide +kernel
theorem dX4_streetOf_29 : decode cX4_streetOf 29 = .ok (.iload 4, 2) := by decide +kernel
theorem dX4_streetOf_31 : decode cX4_streetOf 31 = .ok (.istore_n 2, 1) := by decide +kernel
theorem dX4_streetOf_32 : decode cX4_streetOf 32 = .ok (.iinc 3 1, 3) := by decide +kernel
theorem dX4_streetOf_35 : decode cX4_streetOf 35 = .ok (.goto (-29), 3) := by decide +kernel
theorem dX4_streetOf_38 : decode cX4_streetOf 38 = .ok (.iload_n 2, 1) := by decide +kernel
theorem dX4_streetOf_39 : decode cX4_streetOf 39 = .ok (.ireturn, 1) := by decide +kernel
theorem dX4_leastOf_0 : decode cX4_leastOf 0 = .ok (.iconst 0, 1) := by decide +kernel
theorem dX4_leastOf_1 : decode cX4_leastOf 1 = .ok (.istore_n 2, 1) := by decide +kernel
theorem dX4_leastOf_2 : decode cX4_leastOf 2 = .ok (.iload_n 2, 1) := by decide +kernel
theorem dX4_leastOf_3 : decode cX4_leastOf 3 = .ok (.aload_n 0, 1) := by decide +kernel
theorem dX4_leastOf_4 : decode cX4_leastOf 4 = .ok (.getfield 9, 3) := by decide +kernel
theorem dX4_leastOf_7 : decode cX4_leastOf 7 = .ok (.if_icmp .ge 19, 3) := by decide +kernel
theorem dX4_leastOf_10 : decode cX4_leastOf 10 = .ok (.iload_n 1, 1) := by decide +kernel
theorem dX4_leastOf_11 : decode cX4_leastOf 11 = .ok (.iload_n 2, 1) := by decide +kernel
theorem dX4_leastOf_12 : decode cX4_leastOf 12 = .ok (.ishr, 1) := by decide +kernel
theorem dX4_leastOf_13 : decode cX4_leastOf 13 = .ok (.iconst 1, 1) := by decide +kernel
theorem dX4_leastOf_14 : decode cX4_leastOf 14 = .ok (.iand, 1) := by decide +kernel
theorem dX4_leastOf_15 : decode cX4_leastOf 15 = .ok (.ifCond .eq 5, 3) := by decide +kernel
theorem dX4_leastOf_18 : decode cX4_leastOf 18 = .ok (.iload_n 2, 1) := by decide +kernel
theorem dX4_leastOf_19 : decode cX4_leastOf 19 = .ok (.ireturn, 1) := by decide +kernel
theorem dX4_leastOf_20 : decode cX4_leastOf 20 = .ok (.iinc 2 1, 3) := by decide +kernel
theorem dX4_leastOf_23 : decode cX4_leastOf 23 = .ok (.goto (-21), 3) := by decide +kernel
theorem dX4_leastOf_26 : decode cX4_leastOf 26 = .ok (.iconst (-1), 1) := by decide +kernel
theorem dX4_leastOf_27 : decode cX4_leastOf 27 = .ok (.ireturn, 1) := by decide +kernel
theorem dX4_streetCount_0 : decode cX4_streetCount 0 = .ok (.iconst 0, 1) := by decide +kernel
theorem dX4_streetCount_1 : decode cX4_streetCount 1 = .ok (.istore_n 1, 1) := by decide +kernel
theorem dX4_streetCount_2 : decode cX4_streetCount 2 = .ok (.iconst 0, 1) := by decide +kernel
theorem dX4_streetCount_3 : decode cX4_streetCount 3 = .ok (.istore_n 2, 1) := by decide +kernel
theorem dX4_streetCount_4 : decode cX4_streetCount 4 = .ok (.iload_n 2, 1) := by decide +kernel
theorem dX4_streetCount_5 : decode cX4_streetCount 5 = .ok (.aload_n 0, 1) := by decide +kernel
theorem dX4_streetCount_6 : decode cX4_streetCount 6 = .ok (.getfield 9, 3) := by decide +kernel
theorem dX4_streetCount_9 : decode cX4_streetCount 9 = .ok (.if_icmp .ge 25, 3) := by decide +kernel
theorem dX4_streetCount_12 : decode cX4_streetCount 12 = .ok (.aload_n 0, 1) := by decide +kernel
theorem dX4_streetCount_13 : decode cX4_streetCount 13 = .ok (.aload_n 0, 1) := by decide +kernel
theorem dX4_streetCount_14 : decode cX4_streetCount 14 = .ok (.iload_n 2, 1) := by decide +kernel
theorem dX4_streetCount_15 : decode cX4_streetCount 15 = .ok (.invokevirtual 48, 3) := by decide +kernel
theorem dX4_streetCount_18 : decode cX4_streetCount 18 = .ok (.invokevirtual 51, 3) := by decide +kernel
theorem dX4_streetCount_21 : decode cX4_streetCount 21 = .ok (.iload_n 2, 1) := by decide +kernel
theorem dX4_streetCount_22 : decode cX4_streetCount 22 = .ok (.if_icmp .ne 6, 3) := by decide +kernel
theorem dX4_streetCount_25 : decode cX4_streetCount 25 = .ok (.iinc 1 1, 3) := by decide +kernel
theorem dX4_streetCount_28 : decode cX4_streetCount 28 = .ok (.iinc 2 1, 3) := by decide +kernel
theorem dX4_streetCount_31 : decode cX4_streetCount 31 = .ok (.goto (-27), 3) := by decide +kernel
theorem dX4_streetCount_34 : decode cX4_streetCount 34 = .ok (.iload_n 1, 1) := by decide +kernel
theorem dX4_streetCount_35 : decode cX4_streetCount 35 = .ok (.ireturn, 1) := by decide +kernel
theorem dX4_withNeighbours_0 : decode cX4_withNeighbours 0 = .ok (.iload_n 1, 1) := by decide +kernel
theorem dX4_withNeighbours_1 : decode cX4_withNeighbours 1 = .ok (.istore_n 2, 1) := by decide +kernel
theorem dX4_withNeighbours_2 : decode cX4_withNeighbours 2 = .ok (.iconst 0, 1) := by decide +kernel
theorem dX4_withNeighbours_3 : decode cX4_withNeighbours 3 = .ok (.istore_n 3, 1) := by decide +kernel
theorem dX4_withNeighbours_4 : decode cX4_withNeighbours 4 = .ok (.iload_n 3, 1) := by decide +kernel
theorem dX4_withNeighbours_5 : decode cX4_withNeighbours 5 = .ok (.aload_n 0, 1) := by decide +kernel
theorem dX4_withNeighbours_6 : decode cX4_withNeighbours 6 = .ok (.getfield 9, 3) := by decide +kernel
theorem dX4_withNeighbours_9 : decode cX4_withNeighbours 9 = .ok (.if_icmp .ge 46, 3) := by decide +kernel
theorem dX4_withNeighbours_12 : decode cX4_withNeighbours 12 = .ok (.iload_n 1, 1) := by decide +kernel
theorem dX4_withNeighbours_13 : decode cX4_withNeighbours 13 = .ok (.iload_n 3, 1) := by decide +kernel
theorem dX4_withNeighbours_14 : decode cX4_withNeighbours 14 = .ok (.ishr, 1) := by decide +kernel
theorem dX4_withNeighbours_15 : decode cX4_withNeighbours 15 = .ok (.iconst 1, 1) := by decide +kernel
theorem dX4_withNeighbours_16 : decode cX4_withNeighbours 16 = .ok (.iand, 1) := by decide +kernel
theorem dX4_withNeighbours_17 : decode cX4_withNeighbours 17 = .ok (.ifCond .eq 15, 3) := by decide +kernel
theorem dX4_withNeighbours_20 : decode cX4_withNeighbours 20 = .ok (.iload_n 2, 1) := by decide +kernel
theorem dX4_withNeighbours_21 : decode cX4_withNeighbours 21 = .ok (.aload_n 0, 1) := by decide +kernel
theorem dX4_withNeighbours_22 : decode cX4_withNeighbours 22 = .ok (.getfield 22, 3) := by decide +kernel
theorem dX4_withNeighbours_25 : decode cX4_withNeighbours 25 = .ok (.iload_n 3, 1) := by decide +kernel
theorem dX4_withNeighbours_26 : decode cX4_withNeighbours 26 = .ok (.iaload, 1) := by decide +kernel
theorem dX4_withNeighbours_27 : decode cX4_withNeighbours 27 = .ok (.ior, 1) := by decide +kernel
theorem dX4_withNeighbours_28 : decode cX4_withNeighbours 28 = .ok (.istore_n 2, 1) := by decide +kernel
theorem dX4_withNeighbours_29 : decode cX4_withNeighbours 29 = .ok (.goto 20, 3) := by decide +kernel
theorem dX4_withNeighbours_32 : decode cX4_withNeighbours 32 = .ok (.aload_n 0, 1) := by decide +kernel
theorem dX4_withNeighbours_33 : decode cX4_withNeighbours 33 = .ok (.getfield 22, 3) := by decide +kernel
theorem dX4_withNeighbours_36 : decode cX4_withNeighbours 36 = .ok (.iload_n 3, 1) := by decide +kernel
theorem dX4_withNeighbours_37 : decode cX4_withNeighbours 37 = .ok (.iaload, 1) := by decide +kernel
theorem dX4_withNeighbours_38 : decode cX4_withNeighbours 38 = .ok (.iload_n 1, 1) := by decide +kernel
theorem dX4_withNeighbours_39 : decode cX4_withNeighbours 39 = .ok (.iand, 1) := by decide +kernel
theorem dX4_withNeighbours_40 : decode cX4_withNeighbours 40 = .ok (.ifCond .eq 9, 3) := by decide +kernel
theorem dX4_withNeighbours_43 : decode cX4_withNeighbours 43 = .ok (.iload_n 2, 1) := by decide +kernel
theorem dX4_withNeighbours_44 : decode cX4_withNeighbours 44 = .ok (.iconst 1, 1) := by decide +kernel
theorem dX4_withNeighbours_45 : decode cX4_withNeighbours 45 = .ok (.iload_n 3, 1) := by decide +kernel
theorem dX4_withNeighbours_46 : decode cX4_withNeighbours 46 = .ok (.ishl, 1) := by decide +kernel
theorem dX4_withNeighbours_47 : decode cX4_withNeighbours 47 = .ok (.ior, 1) := by decide +kernel
theorem dX4_withNeighbours_48 : decode cX4_withNeighbours 48 = .ok (.istore_n 2, 1) := by decide +kernel
theorem dX4_withNeighbours_49 : decode cX4_withNeighbours 49 = .ok (.iinc 3 1, 3) := by decide +kernel
theorem dX4_withNeighbours_52 : decode cX4_withNeighbours 52 = .ok (.goto (-48), 3) := by decide +kernel
theorem dX4_withNeighbours_55 : decode cX4_withNeighbours 55 = .ok (.iload_n 2, 1) := by decide +kernel
theorem dX4_withNeighbours_56 : decode cX4_withNeighbours 56 = .ok (.ireturn, 1) := by decide +kernel
theorem dX5_init_0 : decode cX5_init 0 = .ok (.aload_n 0, 1) := by decide +kernel
theorem dX5_init_1 : decode cX5_init 1 = .ok (.invokespecial 3, 3) := by decide +kernel
theorem dX5_init_4 : decode cX5_init 4 = .ok (.aload_n 0, 1) := by decide +kernel
theorem dX5_init_5 : decode cX5_init 5 = .ok (.aload_n 1, 1) := by decide +kernel
theorem dX5_init_6 : decode cX5_init 6 = .ok (.putfield 9, 3) := by decide +kernel
theorem dX5_init_9 : decode cX5_init 9 = .ok (.aload_n 0, 1) := by decide +kernel
theorem dX5_init_10 : decode cX5_init 10 = .ok (.iconst 0, 1) := by decide +kernel
theorem dX5_init_11 : decode cX5_init 11 = .ok (.putfield 15, 3) := by decide +kernel
theorem dX5_init_14 : decode cX5_init 14 = .ok (.aload_n 0, 1) := by decide +kernel
theorem dX5_init_15 : decode cX5_init 15 = .ok (.bipush 60, 2) := by decide +kernel
theorem dX5_init_17 : decode cX5_init 17 = .ok (.newarray .int, 2) := by decide +kernel
theorem dX5_init_19 : decode cX5_init 19 = .ok (.putfield 19, 3) := by decide +kernel
theorem dX5_init_22 : decode cX5_init 22 = .ok (.aload_n 0, 1) := by decide +kernel
theorem dX5_init_23 : decode cX5_init 23 = .ok (.bipush 60, 2) := by decide +kernel
theorem dX5_init_25 : decode cX5_init 25 = .ok (.newarray .int, 2) := by decide +kernel
theorem dX5_init_27 : decode cX5_init 27 = .ok (.putfield 23, 3) := by decide +kernel
theorem dX5_init_30 : decode cX5_init 30 = .ok (.aload_n 0, 1) := by decide +kernel
theorem dX5_init_31 : decode cX5_init 31 = .ok (.bipush 60, 2) := by decide +kernel
theorem dX5_init_33 : decode cX5_init 33 = .ok (.newarray .int, 2) := by decide +kernel
theorem dX5_init_35 : decode cX5_init 35 = .ok (.putfield 26, 3) := by decide +kernel
theorem dX5_init_38 : decode cX5_init 38 = .ok (.return_, 1) := by decide +kernel
theorem dX5_add_0 : decode cX5_add 0 = .ok (.aload_n 0, 1) := by decide +kernel
theorem dX5_add_1 : decode cX5_add 1 = .ok (.getfield 15, 3) := by decide +kernel
theorem dX5_add_4 : decode cX5_add 4 = .ok (.bipush 60, 2) := by decide +kernel
theorem dX5_add_6 : decode cX5_add 6 = .ok (.if_icmp .lt 5, 3) := by decide +kernel
theorem dX5_add_9 : decode cX5_add 9 = .ok (.iconst (-1), 1) := by decide +kernel
theorem dX5_add_10 : decode cX5_add 10 = .ok (.ireturn, 1) := by decide +kernel
theorem dX5_add_11 : decode cX5_add 11 = .ok (.aload_n 0, 1) := by decide +kernel
theorem dX5_add_12 : decode cX5_add 12 = .ok (.getfield 19, 3) := by decide +kernel
theorem dX5_add_15 : decode cX5_add 15 = .ok (.aload_n 0, 1) := by decide +kernel
theorem dX5_add_16 : decode cX5_add 16 = .ok (.getfield 15, 3) := by decide +kernel
theorem dX5_add_19 : decode cX5_add 19 = .ok (.iload_n 1, 1) := by decide +kernel
theorem dX5_add_20 : decode cX5_add 20 = .ok (.iastore, 1) := by decide +kernel
theorem dX5_add_21 : decode cX5_add 21 = .ok (.aload_n 0, 1) := by decide +kernel
theorem dX5_add_22 : decode cX5_add 22 = .ok (.getfield 23, 3) := by decide +kernel
theorem dX5_add_25 : decode cX5_add 25 = .ok (.aload_n 0, 1) := by decide +kernel
theorem dX5_add_26 : decode cX5_add 26 = .ok (.getfield 15, 3) := by decide +kernel
theorem dX5_add_29 : decode cX5_add 29 = .ok (.iload_n 2, 1) := by decide +kernel
theorem dX5_add_30 : decode cX5_add 30 = .ok (.iastore, 1) := by decide +kernel
theorem dX5_add_31 : decode cX5_add 31 = .ok (.aload_n 0, 1) := by decide +kernel
theorem dX5_add_32 : decode cX5_add 32 = .ok (.getfield 26, 3) := by decide +kernel
theorem dX5_add_35 : decode cX5_add 35 = .ok (.aload_n 0, 1) := by decide +kernel
theorem dX5_add_36 : decode cX5_add 36 = .ok (.getfield 15, 3) := by decide +kernel
theorem dX5_add_39 : decode cX5_add 39 = .ok (.iload_n 3, 1) := by decide +kernel
theorem dX5_add_40 : decode cX5_add 40 = .ok (.iastore, 1) := by decide +kernel
theorem dX5_add_41 : decode cX5_add 41 = .ok (.aload_n 0, 1) := by decide +kernel
theorem dX5_add_42 : decode cX5_add 42 = .ok (.dup, 1) := by decide +kernel
theorem dX5_add_43 : decode cX5_add 43 = .ok (.getfield 15, 3) := by decide +kernel
theorem dX5_add_46 : decode cX5_add 46 = .ok (.iconst 1, 1) := by decide +kernel
theorem dX5_add_47 : decode cX5_add 47 = .ok (.iadd, 1) := by decide +kernel
theorem dX5_add_48 : decode cX5_add 48 = .ok (.putfield 15, 3) := by decide +kernel
theorem dX5_add_51 : decode cX5_add 51 = .ok (.aload_n 0, 1) := by decide +kernel
theorem dX5_add_52 : decode cX5_add 52 = .ok (.getfield 15, 3) := by decide +kernel
theorem dX5_add_55 : decode cX5_add 55 = .ok (.ireturn, 1) := by decide +kernel
theorem dX5_offOf_0 : decode cX5_offOf 0 = .ok (.iconst 0, 1) := by decide +kernel
theorem dX5_offOf_1 : decode cX5_offOf 1 = .ok (.istore_n 3, 1) := by decide +kernel
theorem dX5_offOf_2 : decode cX5_offOf 2 = .ok (.iconst 0, 1) := by decide +kernel
theorem dX5_offOf_3 : decode cX5_offOf 3 = .ok (.istore 4, 2) := by decide +kernel
theorem dX5_offOf_5 : decode cX5_offOf 5 = .ok (.iconst 0, 1) := by decide +kernel
theorem dX5_offOf_6 : decode cX5_offOf 6 = .ok (.istore 5, 2) := by decide +kernel
theorem dX5_offOf_8 : decode cX5_offOf 8 = .ok (.iconst 0, 1) := by decide +kernel
theorem dX5_offOf_9 : decode cX5_offOf 9 = .ok (.istore 6, 2) := by decide +kernel
theorem dX5_offOf_11 : decode cX5_offOf 11 = .ok (.iload 6, 2) := by decide +kernel
theorem dX5_offOf_13 : decode cX5_offOf 13 = .ok (.aload_n 0, 1) := by decide +kernel
theorem dX5_offOf_14 : decode cX5_offOf 14 = .ok (.getfield 15, 3) := by decide +kernel
theorem dX5_offOf_17 : decode cX5_offOf 17 = .ok (.if_icmp .ge 102, 3) := by decide +kernel
theorem dX5_offOf_20 : decode cX5_offOf 20 = .ok (.aload_n 0, 1) := by decide +kernel
theorem dX5_offOf_21 : decode cX5_offOf 21 = .ok (.getfield 19, 3) := by decide +kernel
theorem dX5_offOf_24 : decode cX5_offOf 24 = .ok (.iload 6, 2) := by decide +kernel
theorem dX5_offOf_26 : decode cX5_offOf 26 = .ok (.iaload, 1) := by decide +kernel
theorem dX5_offOf_27 : decode cX5_offOf 27 = .ok (.iload_n 1, 1) := by decide +kernel
theorem dX5_offOf_28 : decode cX5_offOf 28 = .ok (.if_icmp .ne 85, 3) := by decide +kernel
theorem dX5_offOf_31 : decode cX5_offOf 31 = .ok (.aload_n 0, 1) := by decide +kernel
theorem dX5_offOf_32 : decode cX5_offOf 32 = .ok (.getfield 9, 3) := by decide +kernel
theorem dX5_offOf_35 : decode cX5_offOf 35 = .ok (.aload_n 0, 1) := by decide +kernel
theorem dX5_offOf_36 : decode cX5_offOf 36 = .ok (.getfield 23, 3) := by decide +kernel
theorem dX5_offOf_39 : decode cX5_offOf 39 = .ok (.iload 6, 2) := by decide +kernel
theorem dX5_offOf_41 : decode cX5_offOf 41 = .ok (.iaload, 1) := by decide +kernel
theorem dX5_offOf_42 : decode cX5_offOf 42 = .ok (.invokevirtual 29, 3) := by decide +kernel
theorem dX5_offOf_45 : decode cX5_offOf 45 = .ok (.ifCond .eq 68, 3) := by decide +kernel
theorem dX5_offOf_48 : decode cX5_offOf 48 = .ok (.iload_n 3, 1) := by decide +kernel
theorem dX5_offOf_49 : decode cX5_offOf 49 = .ok (.bipush 100, 2) := by decide +kernel
theorem dX5_offOf_51 : decode cX5_offOf 51 = .ok (.aload_n 0, 1) := by decide +kernel
theorem dX5_offOf_52 : decode cX5_offOf 52 = .ok (.getfield 26, 3) := by decide +kernel
theorem dX5_offOf_55 : decode cX5_offOf 55 = .ok (.iload 6, 2) := by decide +kernel
theorem dX5_offOf_57 : decode cX5_offOf 57 = .ok (.iaload, 1) := by decide +kernel
theorem dX5_offOf_58 : decode cX5_offOf 58 = .ok (.imul, 1) := by decide +kernel
theorem dX5_offOf_59 : decode cX5_offOf 59 = .ok (.aload_n 0, 1) := by decide +kernel
theorem dX5_offOf_60 : decode cX5_offOf 60 = .ok (.getfield 9, 3) := by decide +kernel
theorem dX5_offOf_63 : decode cX5_offOf 63 = .ok (.aload_n 0, 1) := by decide +kernel
theorem dX5_offOf_64 : decode cX5_offOf 64 = .ok (.getfield 23, 3) := by decide +kernel
theorem dX5_offOf_67 : decode cX5_offOf 67 = .ok (.iload 6, 2) := by decide +kernel
theorem dX5_offOf_69 : decode cX5_offOf 69 = .ok (.iaload, 1) := by decide +kernel
theorem dX5_offOf_70 : decode cX5_offOf 70 = .ok (.invokevirtual 35, 3) := by decide +kernel
theorem dX5_offOf_73 : decode cX5_offOf 73 = .ok (.isub, 1) := by decide +kernel
theorem dX5_offOf_74 : decode cX5_offOf 74 = .ok (.invokestatic 39, 3) := by decide +kernel
theorem dX5_offOf_77 : decode cX5_offOf 77 = .ok (.iadd, 1) := by decide +kernel
theorem dX5_offOf_78 : decode cX5_offOf 78 = .ok (.istore_n 3, 1) := by decide +kernel
theorem dX5_offOf_79 : decode cX5_offOf 79 = .ok (.iinc 4 1, 3) := by decide +kernel
theorem dX5_offOf_82 : decode cX5_offOf 82 = .ok (.iload 5, 2) := by decide +kernel
theorem dX5_offOf_84 : decode cX5_offOf 84 = .ok (.aload_n 0, 1) := by decide +kernel
theorem dX5_offOf_85 : decode cX5_offOf 85 = .ok (.aload_n 0, 1) := by decide +kernel
theorem dX5_offOf_86 : decode cX5_offOf 86 = .ok (.getfield 26, 3) := by decide +kernel
theorem dX5_offOf_89 : decode cX5_offOf 89 = .ok (.iload 6, 2) := by decide +kernel
theorem dX5_offOf_91 : decode cX5_offOf 91 = .ok (.iaload, 1) := by decide +kernel
theorem dX5_offOf_92 : decode cX5_offOf 92 = .ok (.aload_n 0, 1) := by decide +kernel
theorem dX5_offOf_93 : decode cX5_offOf 93 = .ok (.getfield 23, 3) := by decide +kernel
theorem dX5_offOf_96 : decode cX5_offOf 96 = .ok (.iload 6, 2) := by decide +kernel
theorem dX5_offOf_98 : decode cX5_offOf 98 = .ok (.iaload, 1) := by decide +kernel
theorem dX5_offOf_99 : decode cX5_offOf 99 = .ok (.invokevirtual 44, 3) := by decide +kernel
theorem dX5_offOf_102 : decode cX5_offOf 102 = .ok (.ifCond .eq 7, 3) := by decide +kernel
theorem dX5_offOf_105 : decode cX5_offOf 105 = .ok (.iconst 1, 1) := by decide +kernel
theorem dX5_offOf_106 : decode cX5_offOf 106 = .ok (.goto 4, 3) := by decide +kernel
theorem dX5_offOf_109 : decode cX5_offOf 109 = .ok (.iconst 0, 1) := by decide +kernel
theorem dX5_offOf_110 : decode cX5_offOf 110 = .ok (.iadd, 1) := by decide +kernel
theorem dX5_offOf_111 : decode cX5_offOf 111 = .ok (.istore 5, 2) := by decide +kernel
theorem dX5_offOf_113 : decode cX5_offOf 113 = .ok (.iinc 6 1, 3) := by decide +kernel
theorem dX5_offOf_116 : decode cX5_offOf 116 = .ok (.goto (-105), 3) := by decide +kernel
theorem dX5_offOf_119 : decode cX5_offOf 119 = .ok (.iload_n 2, 1) := by decide +kernel
theorem dX5_offOf_120 : decode cX5_offOf 120 = .ok (.ifCond .ne 7, 3) := by decide +kernel
theorem dX5_offOf_123 : decode cX5_offOf 123 = .ok (.iload_n 3, 1) := by decide +kernel
theorem dX5_offOf_124 : decode cX5_offOf 124 = .ok (.goto 15, 3) := by decide +kernel
theorem dX5_offOf_127 : decode cX5_offOf 127 = .ok (.iload_n 2, 1) := by decide +kernel
theorem dX5_offOf_128 : decode cX5_offOf 128 = .ok (.iconst 1, 1) := by decide +kernel
theorem dX5_offOf_129 : decode cX5_offOf 129 = .ok (.if_icmp .ne 8, 3) := by decide +kernel
theorem dX5_offOf_132 : decode cX5_offOf 132 = .ok (.iload 4, 2) := by decide +kernel
theorem dX5_offOf_134 : decode cX5_offOf 134 = .ok (.goto 5, 3) := by decide +kernel
theorem dX5_offOf_137 : decode cX5_offOf 137 = .ok (.iload 5, 2) := by decide +kernel
theorem dX5_offOf_139 : decode cX5_offOf 139 = .ok (.ireturn, 1) := by decide +kernel
theorem dX5_isWithinWorn_0 : decode cX5_isWithinWorn 0 = .ok (.bipush 60, 2) := by decide +kernel
theorem dX5_isWithinWorn_2 : decode cX5_isWithinWorn 2 = .ok (.istore_n 3, 1) := by decide +kernel
theorem dX5_isWithinWorn_3 : decode cX5_isWithinWorn 3 = .ok (.iconst 0, 1) := by decide +kernel
theorem dX5_isWithinWorn_4 : decode cX5_isWithinWorn 4 = .ok (.istore 4, 2) := by decide +kernel
theorem dX5_isWithinWorn_6 : decode cX5_isWithinWorn 6 = .ok (.iconst 0, 1) := by decide +kernel
theorem dX5_isWithinWorn_7 : decode cX5_isWithinWorn 7 = .ok (.istore 5, 2) := by decide +kernel
theorem dX5_isWithinWorn_9 : decode cX5_isWithinWorn 9 = .ok (.iload 5, 2) := by decide +kernel
theorem dX5_isWithinWorn_11 : decode cX5_isWithinWorn 11 = .ok (.aload_n 0, 1) := by decide +kernel
theorem dX5_isWithinWorn_12 : decode cX5_isWithinWorn 12 = .ok (.getfield 9, 3) := by decide +kernel
theorem dX5_isWithinWorn_15 : decode cX5_isWithinWorn 15 = .ok (.getfield 48, 3) := by decide +kernel
theorem dX5_isWithinWorn_18 : decode cX5_isWithinWorn 18 = .ok (.getfield 52, 3) := by decide +kernel
theorem dX5_isWithinWorn_21 : decode cX5_isWithinWorn 21 = .ok (.if_icmp .ge 40, 3) := by decide +kernel
theorem dX5_isWithinWorn_24 : decode cX5_isWithinWorn 24 = .ok (.aload_n 0, 1) := by decide +kernel
theorem dX5_isWithinWorn_25 : decode cX5_isWithinWorn 25 = .ok (.getfield 9, 3) := by decide +kernel
theorem dX5_isWithinWorn_28 : decode cX5_isWithinWorn 28 = .ok (.getfield 55, 3) := by decide +kernel
theorem dX5_isWithinWorn_31 : decode cX5_isWithinWorn 31 = .ok (.iload 5, 2) := by decide +kernel
theorem dX5_isWithinWorn_33 : decode cX5_isWithinWorn 33 = .ok (.iload_n 2, 1) := by decide +kernel
theorem dX5_isWithinWorn_34 : decode cX5_isWithinWorn 34 = .ok (.invokevirtual 59, 3) := by decide +kernel
theorem dX5_isWithinWorn_37 : decode cX5_isWithinWorn 37 = .ok (.istore 6, 2) := by decide +kernel
theorem dX5_isWithinWorn_39 : decode cX5_isWithinWorn 39 = .ok (.iload_n 3, 1) := by decide +kernel
theorem dX5_isWithinWorn_40 : decode cX5_isWithinWorn 40 = .ok (.iload 6, 2) := by decide +kernel
theorem dX5_isWithinWorn_42 : decode cX5_isWithinWorn 42 = .ok (.invokestatic 65, 3) := by decide +kernel
theorem dX5_isWithinWorn_45 : decode cX5_isWithinWorn 45 = .ok (.istore_n 3, 1) := by decide +kernel
theorem dX5_isWithinWorn_46 : decode cX5_isWithinWorn 46 = .ok (.iload 4, 2) := by decide +kernel
theorem dX5_isWithinWorn_48 : decode cX5_isWithinWorn 48 = .ok (.iload 6, 2) := by decide +kernel
theorem dX5_isWithinWorn_50 : decode cX5_isWithinWorn 50 = .ok (.invokestatic 68, 3) := by decide +kernel
theorem dX5_isWithinWorn_53 : decode cX5_isWithinWorn 53 = .ok (.istore 4, 2) := by decide +kernel
theorem dX5_isWithinWorn_55 : decode cX5_isWithinWorn 55 = .ok (.iinc 5 1, 3) := by decide +kernel
theorem dX5_isWithinWorn_58 : decode cX5_isWithinWorn 58 = .ok (.goto (-49), 3) := by decide +kernel
theorem dX5_isWithinWorn_61 : decode cX5_isWithinWorn 61 = .ok (.iload_n 1, 1) := by decide +kernel
theorem dX5_isWithinWorn_62 : decode cX5_isWithinWorn 62 = .ok (.iload_n 3, 1) := by decide +kernel
theorem dX5_isWithinWorn_63 : decode cX5_isWithinWorn 63 = .ok (.iload 4, 2) := by decide +kernel
theorem dX5_isWithinWorn_65 : decode cX5_isWithinWorn 65 = .ok (.invokestatic 71, 3) := by decide +kernel
theorem dX5_isWithinWorn_68 : decode cX5_isWithinWorn 68 = .ok (.ireturn, 1) := by decide +kernel
theorem dX6_init_0 : decode cX6_init 0 = .ok (.aload_n 0, 1) := by decide +kernel
theorem dX6_init_1 : decode cX6_init 1 = .ok (.invokespecial 3, 3) := by decide +kernel
theorem dX6_init_4 : decode cX6_init 4 = .ok (.aload_n 0, 1) := by decide +kernel
theorem dX6_init_5 : decode cX6_init 5 = .ok (.aload_n 1, 1) := by decide +kernel
theorem dX6_init_6 : decode cX6_init 6 = .ok (.putfield 9, 3) := by decide +kernel
theorem dX6_init_9 : decode cX6_init 9 = .ok (.aload_n 0, 1) := by decide +kernel
theorem dX6_init_10 : decode cX6_init 10 = .ok (.aload_n 2, 1) := by decide +kernel
theorem dX6_init_11 : decode cX6_init 11 = .ok (.putfield 15, 3) := by decide +kernel
theorem dX6_init_14 : decode cX6_init 14 = .ok (.aload_n 0, 1) := by decide +kernel
theorem dX6_init_15 : decode cX6_init 15 = .ok (.bipush 12, 2) := by decide +kernel
theorem dX6_init_17 : decode cX6_init 17 = .ok (.newarray .int, 2) := by decide +kernel
theorem dX6_init_19 : decode cX6_init 19 = .ok (.putfield 21, 3) := by decide +kernel
theorem dX6_init_22 : decode cX6_init 22 = .ok (.aload_n 0, 1) := by decide +kernel
theorem dX6_init_23 : decode cX6_init 23 = .ok (.iconst 4, 1) := by decide +kernel
theorem dX6_init_24 : decode cX6_init 24 = .ok (.newarray .int, 2) := by decide +kernel
theorem dX6_init_26 : decode cX6_init 26 = .ok (.putfield 27, 3) := by decide +kernel
theorem dX6_init_29 : decode cX6_init 29 = .ok (.aload_n 0, 1) := by decide +kernel
theorem dX6_init_30 : decode cX6_init 30 = .ok (.iconst 4, 1) := by decide +kernel
theorem dX6_init_31 : decode cX6_init 31 = .ok (.newarray .int, 2) := by decide +kernel
theorem dX6_init_33 : decode cX6_init 33 = .ok (.putfield 30, 3) := by decide +kernel
theorem dX6_init_36 : decode cX6_init 36 = .ok (.aload_n 0, 1) := by decide +kernel
theorem dX6_init_37 : decode cX6_init 37 = .ok (.iconst 2, 1) := by decide +kernel
theorem dX6_init_38 : decode cX6_init 38 = .ok (.putfield 33, 3) := by decide +kernel
theorem dX6_init_41 : decode cX6_init 41 = .ok (.return_, 1) := by decide +kernel
theorem dX6_wishOf_0 : decode cX6_wishOf 0 = .ok (.aload_n 0, 1) := by decide +kernel
theorem dX6_wishOf_1 : decode cX6_wishOf 1 = .ok (.getfield 15, 3) := by decide +kernel
theorem dX6_wishOf_4 : decode cX6_wishOf 4 = .ok (.iload_n 2, 1) := by decide +kernel
theorem dX6_wishOf_5 : decode cX6_wishOf 5 = .ok (.iload_n 3, 1) := by decide +kernel
theorem dX6_wishOf_6 : decode cX6_wishOf 6 = .ok (.iconst 1, 1) := by decide +kernel
theorem dX6_wishOf_7 : decode cX6_wishOf 7 = .ok (.isub, 1) := by decide +kernel
theorem dX6_wishOf_8 : decode cX6_wishOf 8 = .ok (.invokevirtual 37, 3) := by decide +kernel
theorem dX6_wishOf_11 : decode cX6_wishOf 11 = .ok (.istore 7, 2) := by decide +kernel
theorem dX6_wishOf_13 : decode cX6_wishOf 13 = .ok (.aload_n 0, 1) := by decide +kernel
theorem dX6_wishOf_14 : decode cX6_wishOf 14 = .ok (.getfield 21, 3) := by decide +kernel
theorem dX6_wishOf_17 : decode cX6_wishOf 17 = .ok (.iconst 0, 1) := by decide +kernel
theorem dX6_wishOf_18 : decode cX6_wishOf 18 = .ok (.iload_n 3, 1) := by decide +kernel
theorem dX6_wishOf_19 : decode cX6_wishOf 19 = .ok (.iastore, 1) := by decide +kernel
theorem dX6_wishOf_20 : decode cX6_wishOf 20 = .ok (.aload_n 0, 1) := by decide +kernel
theorem dX6_wishOf_21 : decode cX6_wishOf 21 = .ok (.getfield 21, 3) := by decide +kernel
theorem dX6_wishOf_24 : decode cX6_wishOf 24 = .ok (.iconst 1, 1) := by decide +kernel
theorem dX6_wishOf_25 : decode cX6_wishOf 25 = .ok (.iload 7, 2) := by decide +kernel
theorem dX6_wishOf_27 : decode cX6_wishOf 27 = .ok (.iastore, 1) := by decide +kernel
theorem dX6_wishOf_28 : decode cX6_wishOf 28 = .ok (.aload_n 0, 1) := by decide +kernel
theorem dX6_wishOf_29 : decode cX6_wishOf 29 = .ok (.getfield 21, 3) := by decide +kernel
theorem dX6_wishOf_32 : decode cX6_wishOf 32 = .ok (.iconst 2, 1) := by decide +kernel
theorem dX6_wishOf_33 : decode cX6_wishOf 33 = .ok (.aload_n 0, 1) := by decide +kernel
theorem dX6_wishOf_34 : decode cX6_wishOf 34 = .ok (.getfield 9, 3) := by decide +kernel
theorem dX6_wishOf_37 : decode cX6_wishOf 37 = .ok (.getfield 43, 3) := by decide +kernel
theorem dX6_wishOf_40 : decode cX6_wishOf 40 = .ok (.iload_n 2, 1) := by decide +kernel
theorem dX6_wishOf_41 : decode cX6_wishOf 41 = .ok (.iaload, 1) := by decide +kernel
theorem dX6_wishOf_42 : decode cX6_wishOf 42 = .ok (.iastore, 1) := by decide +kernel
theorem dX6_wishOf_43 : decode cX6_wishOf 43 = .ok (.aload_n 0, 1) := by decide +kernel
theorem dX6_wishOf_44 : decode cX6_wishOf 44 = .ok (.getfield 21, 3) := by decide +kernel
theorem dX6_wishOf_47 : decode cX6_wishOf 47 = .ok (.iconst 3, 1) := by decide +kernel
theorem dX6_wishOf_48 : decode cX6_wishOf 48 = .ok (.iload 4, 2) := by decide +kernel
theorem dX6_wishOf_50 : decode cX6_wishOf 50 = .ok (.iastore, 1) := by decide +kernel
theorem dX6_wishOf_51 : decode cX6_wishOf 51 = .ok (.aload_n 0, 1) := by decide +kernel
theorem dX6_wishOf_52 : decode cX6_wishOf 52 = .ok (.getfield 21, 3) := by decide +kernel
theorem dX6_wishOf_55 : decode cX6_wishOf 55 = .ok (.iconst 4, 1) := by decide +kernel
theorem dX6_wishOf_56 : decode cX6_wishOf 56 = .ok (.aload_n 0, 1) := by decide +kernel
theorem dX6_wishOf_57 : decode cX6_wishOf 57 = .ok (.getfield 9, 3) := by decide +kernel
theorem dX6_wishOf_60 : decode cX6_wishOf 60 = .ok (.getfield 48, 3) := by decide +kernel
theorem dX6_wishOf_63 : decode cX6_wishOf 63 = .ok (.iload_n 2, 1) := by decide +kernel
theorem dX6_wishOf_64 : decode cX6_wishOf 64 = .ok (.iaload, 1) := by decide +kernel
theorem dX6_wishOf_65 : decode cX6_wishOf 65 = .ok (.iastore, 1) := by decide +kernel
theorem dX6_wishOf_66 : decode cX6_wishOf 66 = .ok (.aload_n 0, 1) := by decide +kernel
theorem dX6_wishOf_67 : decode cX6_wishOf 67 = .ok (.getfield 21, 3) := by decide +kernel
theorem dX6_wishOf_70 : decode cX6_wishOf 70 = .ok (.iconst 5, 1) := by decide +kernel
theorem dX6_wishOf_71 : decode cX6_wishOf 71 = .ok (.aload_n 0, 1) := by decide +kernel
theorem dX6_wishOf_72 : decode cX6_wishOf 72 = .ok (.getfield 15, 3) := by decide +kernel
theorem dX6_wishOf_75 : decode cX6_wishOf 75 = .ok (.getfield 51, 3) := by decide +kernel
theorem dX6_wishOf_78 : decode cX6_wishOf 78 = .ok (.iload_n 3, 1) := by decide +kernel
theorem dX6_wishOf_79 : decode cX6_wishOf 79 = .ok (.iconst 1, 1) := by decide +kernel
theorem dX6_wishOf_80 : decode cX6_wishOf 80 = .ok (.isub, 1) := by decide +kernel
theorem dX6_wishOf_81 : decode cX6_wishOf 81 = .ok (.iaload, 1) := by decide +kernel
theorem dX6_wishOf_82 : decode cX6_wishOf 82 = .ok (.iastore, 1) := by decide +kernel
theorem dX6_wishOf_83 : decode cX6_wishOf 83 = .ok (.aload_n 0, 1) := by decide +kernel
theorem dX6_wishOf_84 : decode cX6_wishOf 84 = .ok (.getfield 21, 3) := by decide +kernel
theorem dX6_wishOf_87 : decode cX6_wishOf 87 = .ok (.bipush 6, 2) := by decide +kernel
theorem dX6_wishOf_89 : decode cX6_wishOf 89 = .ok (.iload 6, 2) := by decide +kernel
theorem dX6_wishOf_91 : decode cX6_wishOf 91 = .ok (.iastore, 1) := by decide +kernel
theorem dX6_wishOf_92 : decode cX6_wishOf 92 = .ok (.aload_n 0, 1) := by decide +kernel
theorem dX6_wishOf_93 : decode cX6_wishOf 93 = .ok (.getfield 21, 3) := by decide +kernel
theorem dX6_wishOf_96 : decode cX6_wishOf 96 = .ok (.bipush 7, 2) := by decide +kernel
theorem dX6_wishOf_98 : decode cX6_wishOf 98 = .ok (.iload 5, 2) := by decide +kernel
theorem dX6_wishOf_100 : decode cX6_wishOf 100 = .ok (.iastore, 1) := by decide +kernel
theorem dX6_wishOf_101 : decode cX6_wishOf 101 = .ok (.aload_n 0, 1) := by decide +kernel
theorem dX6_wishOf_102 : decode cX6_wishOf 102 = .ok (.iload_n 2, 1) := by decide +kernel
theorem dX6_wishOf_103 : decode cX6_wishOf 103 = .ok (.iload_n 3, 1) := by decide +kernel
theorem dX6_wishOf_104 : decode cX6_wishOf 104 = .ok (.iconst 1, 1) := by decide +kernel
theorem dX6_wishOf_105 : decode cX6_wishOf 105 = .ok (.isub, 1) := by decide +kernel
theorem dX6_wishOf_106 : decode cX6_wishOf 106 = .ok (.invokevirtual 54, 3) := by decide +kernel
theorem dX6_wishOf_109 : decode cX6_wishOf 109 = .ok (.iconst 0, 1) := by decide +kernel
theorem dX6_wishOf_110 : decode cX6_wishOf 110 = .ok (.istore 8, 2) := by decide +kernel
theorem dX6_wishOf_112 : decode cX6_wishOf 112 = .ok (.iload 8, 2) := by decide +kernel
theorem dX6_wishOf_114 : decode cX6_wishOf 114 = .ok (.iconst 3, 1) := by decide +kernel
theorem dX6_wishOf_115 : decode cX6_wishOf 115 = .ok (.if_icmp .gt 30, 3) := by decide +kernel
theorem dX6_wishOf_118 : decode cX6_wishOf 118 = .ok (.aload_n 0, 1) := by decide +kernel
theorem dX6_wishOf_119 : decode cX6_wishOf 119 = .ok (.getfield 21, 3) := by decide +kernel
theorem dX6_wishOf_122 : decode cX6_wishOf 122 = .ok (.bipush 8, 2) := by decide +kernel
theorem dX6_wishOf_124 : decode cX6_wishOf 124 = .ok (.iload 8, 2) := by decide +kernel
theorem dX6_wishOf_126 : decode cX6_wishOf 126 = .ok (.iadd, 1) := by decide +kernel
theorem dX6_wishOf_127 : decode cX6_wishOf 127 = .ok (.iconst 0, 1) := by decide +kernel
theorem dX6_wishOf_128 : decode cX6_wishOf 128 = .ok (.aload_n 0, 1) := by decide +kernel
theorem dX6_wishOf_129 : decode cX6_wishOf 129 = .ok (.getfield 30, 3) := by decide +kernel
theorem dX6_wishOf_132 : decode cX6_wishOf 132 = .ok (.iload 8, 2) := by decide +kernel
theorem dX6_wishOf_134 : decode cX6_wishOf 134 = .ok (.iaload, 1) := by decide +kernel
theorem dX6_wishOf_135 : decode cX6_wishOf 135 = .ok (.invokestatic 58, 3) := by decide +kernel
theorem dX6_wishOf_138 : decode cX6_wishOf 138 = .ok (.iastore, 1) := by decide +kernel
theorem dX6_wishOf_139 : decode cX6_wishOf 139 = .ok (.iinc 8 1, 3) := by decide +kernel
theorem dX6_wishOf_142 : decode cX6_wishOf 142 = .ok (.goto (-30), 3) := by decide +kernel
theorem dX6_wishOf_145 : decode cX6_wishOf 145 = .ok (.aload_n 0, 1) := by decide +kernel
theorem dX6_wishOf_146 : decode cX6_wishOf 146 = .ok (.aload_n 1, 1) := by decide +kernel
theorem dX6_wishOf_147 : decode cX6_wishOf 147 = .ok (.iload 7, 2) := by decide +kernel
theorem dX6_wishOf_149 : decode cX6_wishOf 149 = .ok (.iload_n 3, 1) := by decide +kernel
theorem dX6_wishOf_150 : decode cX6_wishOf 150 = .ok (.iconst 1, 1) := by decide +kernel
theorem dX6_wishOf_151 : decode cX6_wishOf 151 = .ok (.isub, 1) := by decide +kernel
theorem dX6_wishOf_152 : decode cX6_wishOf 152 = .ok (.invokevirtual 63, 3) := by decide +kernel
theorem dX6_wishOf_155 : decode cX6_wishOf 155 = .ok (.ireturn, 1) := by decide +kernel
theorem dX6_look_0 : decode cX6_look 0 = .ok (.aload_n 0, 1) := by decide +kernel
theorem dX6_look_1 : decode cX6_look 1 = .ok (.getfield 27, 3) := by decide +kernel
theorem dX6_look_4 : decode cX6_look 4 = .ok (.iconst 0, 1) := by decide +kernel
theorem dX6_look_5 : decode cX6_look 5 = .ok (.invokestatic 67, 3) := by decide +kernel
theorem dX6_look_8 : decode cX6_look 8 = .ok (.aload_n 0, 1) := by decide +kernel
theorem dX6_look_9 : decode cX6_look 9 = .ok (.getfield 30, 3) := by decide +kernel
theorem dX6_look_12 : decode cX6_look 12 = .ok (.iconst 0, 1) := by decide +kernel
theorem dX6_look_13 : decode cX6_look 13 = .ok (.invokestatic 67, 3) := by decide +kernel
theorem dX6_look_16 : decode cX6_look 16 = .ok (.iconst 0, 1) := by decide +kernel
theorem dX6_look_17 : decode cX6_look 17 = .ok (.istore_n 3, 1) := by decide +kernel
theorem dX6_look_18 : decode cX6_look 18 = .ok (.iload_n 3, 1) := by decide +kernel
theorem dX6_look_19 : decode cX6_look 19 = .ok (.aload_n 0, 1) := by decide +kernel
theorem dX6_look_20 : decode cX6_look 20 = .ok (.getfield 9, 3) := by decide +kernel
theorem dX6_look_23 : decode cX6_look 23 = .ok (.getfield 73, 3) := by decide +kernel
theorem dX6_look_26 : decode cX6_look 26 = .ok (.if_icmp .ge 97, 3) := by decide +kernel
theorem dX6_look_29 : decode cX6_look 29 = .ok (.aload_n 0, 1) := by decide +kernel
theorem dX6_look_30 : decode cX6_look 30 = .ok (.getfield 9, 3) := by decide +kernel
theorem dX6_look_33 : decode cX6_look 33 = .ok (.getfield 76, 3) := by decide +kernel
theorem dX6_look_36 : decode cX6_look 36 = .ok (.iload_n 1, 1) := by decide +kernel
theorem dX6_look_37 : decode cX6_look 37 = .ok (.iaload, 1) := by decide +kernel
theorem dX6_look_38 : decode cX6_look 38 = .ok (.iload_n 3, 1) := by decide +kernel
theorem dX6_look_39 : decode cX6_look 39 = .ok (.ishr, 1) := by decide +kernel
theorem dX6_look_40 : decode cX6_look 40 = .ok (.iconst 1, 1) := by decide +kernel
theorem dX6_look_41 : decode cX6_look 41 = .ok (.iand, 1) := by decide +kernel
theorem dX6_look_42 : decode cX6_look 42 = .ok (.ifCond .eq 75, 3) := by decide +kernel
theorem dX6_look_45 : decode cX6_look 45 = .ok (.aload_n 0, 1) := by decide +kernel
theorem dX6_look_46 : decode cX6_look 46 = .ok (.getfield 9, 3) := by decide +kernel
theorem dX6_look_49 : decode cX6_look 49 = .ok (.getfield 48, 3) := by decide +kernel
theorem dX6_look_52 : decode cX6_look 52 = .ok (.iload_n 3, 1) := by decide +kernel
theorem dX6_look_53 : decode cX6_look 53 = .ok (.iaload, 1) := by decide +kernel
theorem dX6_look_54 : decode cX6_look 54 = .ok (.aload_n 0, 1) := by decide +kernel
theorem dX6_look_55 : decode cX6_look 55 = .ok (.getfield 9, 3) := by decide +kernel
theorem dX6_look_58 : decode cX6_look 58 = .ok (.getfield 48, 3) := by decide +kernel
theorem dX6_look_61 : decode cX6_look 61 = .ok (.iload_n 1, 1) := by decide +kernel
theorem dX6_look_62 : decode cX6_look 62 = .ok (.iaload, 1) := by decide +kernel
theorem dX6_look_63 : decode cX6_look 63 = .ok (.isub, 1) := by decide +kernel
theorem dX6_look_64 : decode cX6_look 64 = .ok (.istore 4, 2) := by decide +kernel
theorem dX6_look_66 : decode cX6_look 66 = .ok (.iload 4, 2) := by decide +kernel
theorem dX6_look_68 : decode cX6_look 68 = .ok (.ifCond .le 7, 3) := by decide +kernel
theorem dX6_look_71 : decode cX6_look 71 = .ok (.iconst 0, 1) := by decide +kernel
theorem dX6_look_72 : decode cX6_look 72 = .ok (.goto 13, 3) := by decide +kernel
theorem dX6_look_75 : decode cX6_look 75 = .ok (.iload 4, 2) := by decide +kernel
theorem dX6_look_77 : decode cX6_look 77 = .ok (.ifCond .ge 7, 3) := by decide +kernel
theorem dX6_look_80 : decode cX6_look 80 = .ok (.iconst 1, 1) := by decide +kernel
theorem dX6_look_81 : decode cX6_look 81 = .ok (.goto 4, 3) := by decide +kernel
theorem dX6_look_84 : decode cX6_look 84 = .ok (.iconst 2, 1) := by decide +kernel
theorem dX6_look_85 : decode cX6_look 85 = .ok (.istore 5, 2) := by decide +kernel
theorem dX6_look_87 : decode cX6_look 87 = .ok (.aload_n 0, 1) := by decide +kernel
theorem dX6_look_88 : decode cX6_look 88 = .ok (.getfield 30, 3) := by decide +kernel
theorem dX6_look_91 : decode cX6_look 91 = .ok (.iload 5, 2) := by decide +kernel
theorem dX6_look_93 : decode cX6_look 93 = .ok (.dup2, 1) := by decide +kernel
theorem dX6_look_94 : decode cX6_look 94 = .ok (.iaload, 1) := by decide +kernel
theorem dX6_look_95 : decode cX6_look 95 = .ok (.aload_n 0, 1) := by decide +kernel
theorem dX6_look_96 : decode cX6_look 96 = .ok (.getfield 15, 3) := by decide +kernel
theorem dX6_look_99 : decode cX6_look 99 = .ok (.iload_n 3, 1) := by decide +kernel
theorem dX6_look_100 : decode cX6_look 100 = .ok (.iload_n 2, 1) := by decide +kernel
theorem dX6_look_101 : decode cX6_look 101 = .ok (.invokevirtual 37, 3) := by decide +kernel
theorem dX6_look_104 : decode cX6_look 104 = .ok (.iadd, 1) := by decide +kernel
theorem dX6_look_105 : decode cX6_look 105 = .ok (.iastore, 1) := by decide +kernel
theorem dX6_look_106 : decode cX6_look 106 = .ok (.aload_n 0, 1) := by decide +kernel
theorem dX6_look_107 : decode cX6_look 107 = .ok (.getfield 27, 3) := by decide +kernel
theorem dX6_look_110 : decode cX6_look 110 = .ok (.iload 5, 2) := by decide +kernel
theorem dX6_look_112 : decode cX6_look 112 = .ok (.dup2, 1) := by decide +kernel
theorem dX6_look_113 : decode cX6_look 113 = .ok (.iaload, 1) := by decide +kernel
theorem dX6_look_114 : decode cX6_look 114 = .ok (.iconst 1, 1) := by decide +kernel
theorem dX6_look_115 : decode cX6_look 115 = .ok (.iadd, 1) := by decide +kernel
theorem dX6_look_116 : decode cX6_look 116 = .ok (.iastore, 1) := by decide +kernel
theorem dX6_look_117 : decode cX6_look 117 = .ok (.iinc 3 1, 3) := by decide +kernel
theorem dX6_look_120 : decode cX6_look 120 = .ok (.goto (-102), 3) := by decide +kernel
theorem dX6_look_123 : decode cX6_look 123 = .ok (.aload_n 0, 1) := by decide +kernel
theorem dX6_look_124 : decode cX6_look 124 = .ok (.getfield 30, 3) := by decide +kernel
theorem dX6_look_127 : decode cX6_look 127 = .ok (.iconst 3, 1) := by decide +kernel
theorem dX6_look_128 : decode cX6_look 128 = .ok (.aload_n 0, 1) := by decide +kernel
theorem dX6_look_129 : decode cX6_look 129 = .ok (.getfield 30, 3) := by decide +kernel
theorem dX6_look_132 : decode cX6_look 132 = .ok (.iconst 0, 1) := by decide +kernel
theorem dX6_look_133 : decode cX6_look 133 = .ok (.iaload, 1) := by decide +kernel
theorem dX6_look_134 : decode cX6_look 134 = .ok (.aload_n 0, 1) := by decide +kernel
theorem dX6_look_135 : decode cX6_look 135 = .ok (.getfield 30, 3) := by decide +kernel
theorem dX6_look_138 : decode cX6_look 138 = .ok (.iconst 1, 1) := by decide +kernel
theorem dX6_look_139 : decode cX6_look 139 = .ok (.iaload, 1) := by decide +kernel
theorem dX6_look_140 : decode cX6_look 140 = .ok (.iadd, 1) := by decide +kernel
theorem dX6_look_141 : decode cX6_look 141 = .ok (.aload_n 0, 1) := by decide +kernel
theorem dX6_look_142 : decode cX6_look 142 = .ok (.getfield 30, 3) := by decide +kernel
theorem dX6_look_145 : decode cX6_look 145 = .ok (.iconst 2, 1) := by decide +kernel
theorem dX6_look_146 : decode cX6_look 146 = .ok (.iaload, 1) := by decide +kernel
theorem dX6_look_147 : decode cX6_look 147 = .ok (.iadd, 1) := by decide +kernel
theorem dX6_look_148 : decode cX6_look 148 = .ok (.iastore, 1) := by decide +kernel
theorem dX6_look_149 : decode cX6_look 149 = .ok (.aload_n 0, 1) := by decide +kernel
theorem dX6_look_150 : decode cX6_look 150 = .ok (.getfield 27, 3) := by decide +kernel
theorem dX6_look_153 : decode cX6_look 153 = .ok (.iconst 3, 1) := by decide +kernel
theorem dX6_look_154 : decode cX6_look 154 = .ok (.aload_n 0, 1) := by decide +kernel
theorem dX6_look_155 : decode cX6_look 155 = .ok (.getfield 27, 3) := by decide +kernel
theorem dX6_look_158 : decode cX6_look 158 = .ok (.iconst 0, 1) := by decide +kernel
theorem dX6_look_159 : decode cX6_look 159 = .ok (.iaload, 1) := by decide +kernel
theorem dX6_look_160 : decode cX6_look 160 = .ok (.aload_n 0, 1) := by decide +kernel
theorem dX6_look_161 : decode cX6_look 161 = .ok (.getfield 27, 3) := by decide +kernel
theorem dX6_look_164 : decode cX6_look 164 = .ok (.iconst 1, 1) := by decide +kernel
theorem dX6_look_165 : decode cX6_look 165 = .ok (.iaload, 1) := by decide +kernel
theorem dX6_look_166 : decode cX6_look 166 = .ok (.iadd, 1) := by decide +kernel
theorem dX6_look_167 : decode cX6_look 167 = .ok (.aload_n 0, 1) := by decide +kernel
theorem dX6_look_168 : decode cX6_look 168 = .ok (.getfield 27, 3) := by decide +kernel
theorem dX6_look_171 : decode cX6_look 171 = .ok (.iconst 2, 1) := by decide +kernel
theorem dX6_look_172 : decode cX6_look 172 = .ok (.iaload, 1) := by decide +kernel
theorem dX6_look_173 : decode cX6_look 173 = .ok (.iadd, 1) := by decide +kernel
theorem dX6_look_174 : decode cX6_look 174 = .ok (.iastore, 1) := by decide +kernel
theorem dX6_look_175 : decode cX6_look 175 = .ok (.iconst 0, 1) := by decide +kernel
theorem dX6_look_176 : decode cX6_look 176 = .ok (.istore_n 3, 1) := by decide +kernel
theorem dX6_look_177 : decode cX6_look 177 = .ok (.iload_n 3, 1) := by decide +kernel
theorem dX6_look_178 : decode cX6_look 178 = .ok (.iconst 3, 1) := by decide +kernel
theorem dX6_look_179 : decode cX6_look 179 = .ok (.if_icmp .gt 41, 3) := by decide +kernel
theorem dX6_look_182 : decode cX6_look 182 = .ok (.aload_n 0, 1) := by decide +kernel
theorem dX6_look_183 : decode cX6_look 183 = .ok (.getfield 30, 3) := by decide +kernel
theorem dX6_look_186 : decode cX6_look 186 = .ok (.iload_n 3, 1) := by decide +kernel
theorem dX6_look_187 : decode cX6_look 187 = .ok (.aload_n 0, 1) := by decide +kernel
theorem dX6_look_188 : decode cX6_look 188 = .ok (.getfield 27, 3) := by decide +kernel
theorem dX6_look_191 : decode cX6_look 191 = .ok (.iload_n 3, 1) := by decide +kernel
theorem dX6_look_192 : decode cX6_look 192 = .ok (.iaload, 1) := by decide +kernel
theorem dX6_look_193 : decode cX6_look 193 = .ok (.ifCond .ne 7, 3) := by decide +kernel
theorem dX6_look_196 : decode cX6_look 196 = .ok (.iconst (-1), 1) := by decide +kernel
theorem dX6_look_197 : decode cX6_look 197 = .ok (.goto 16, 3) := by decide +kernel
theorem dX6_look_200 : decode cX6_look 200 = .ok (.aload_n 0, 1) := by decide +kernel
theorem dX6_look_201 : decode cX6_look 201 = .ok (.getfield 30, 3) := by decide +kernel
theorem dX6_look_204 : decode cX6_look 204 = .ok (.iload_n 3, 1) := by decide +kernel
theorem dX6_look_205 : decode cX6_look 205 = .ok (.iaload, 1) := by decide +kernel
theorem dX6_look_206 : decode cX6_look 206 = .ok (.aload_n 0, 1) := by decide +kernel
theorem dX6_look_207 : decode cX6_look 207 = .ok (.getfield 27, 3) := by decide +kernel
theorem dX6_look_210 : decode cX6_look 210 = .ok (.iload_n 3, 1) := by decide +kernel
theorem dX6_look_211 : decode cX6_look 211 = .ok (.iaload, 1) := by decide +kernel
theorem dX6_look_212 : decode cX6_look 212 = .ok (.idiv, 1) := by decide +kernel
theorem dX6_look_213 : decode cX6_look 213 = .ok (.iastore, 1) := by decide +kernel
theorem dX6_look_214 : decode cX6_look 214 = .ok (.iinc 3 1, 3) := by decide +kernel
theorem dX6_look_217 : decode cX6_look 217 = .ok (.goto (-40), 3) := by decide +kernel
theorem dX6_look_220 : decode cX6_look 220 = .ok (.return_, 1) := by decide +kernel
theorem dX6_wishByRules_0 : decode cX6_wishByRules 0 = .ok (.aload_n 1, 1) := by decide +kernel
theorem dX6_wishByRules_1 : decode cX6_wishByRules 1 = .ok (.getfield 79, 3) := by decide +kernel
theorem dX6_wishByRules_4 : decode cX6_wishByRules 4 = .ok (.astore 4, 2) := by decide +kernel
theorem dX6_wishByRules_6 : decode cX6_wishByRules 6 = .ok (.iconst 0, 1) := by decide +kernel
theorem dX6_wishByRules_7 : decode cX6_wishByRules 7 = .ok (.istore 5, 2) := by decide +kernel
theorem dX6_wishByRules_9 : decode cX6_wishByRules 9 = .ok (.iconst 0, 1) := by decide +kernel
theorem dX6_wishByRules_10 : decode cX6_wishByRules 10 = .ok (.istore 6, 2) := by decide +kernel
theorem dX6_wishByRules_12 : decode cX6_wishByRules 12 = .ok (.iload 6, 2) := by decide +kernel
theorem dX6_wishByRules_14 : decode cX6_wishByRules 14 = .ok (.aload_n 1, 1) := by decide +kernel
theorem dX6_wishByRules_15 : decode cX6_wishByRules 15 = .ok (.getfield 82, 3) := by decide +kernel
theorem dX6_wishByRules_18 : decode cX6_wishByRules 18 = .ok (.if_icmp .ge 109, 3) := by decide +kernel
theorem dX6_wishByRules_21 : decode cX6_wishByRules 21 = .ok (.iload 5, 2) := by decide +kernel
theorem dX6_wishByRules_23 : decode cX6_wishByRules 23 = .ok (.iconst 1, 1) := by decide +kernel
theorem dX6_wishByRules_24 : decode cX6_wishByRules 24 = .ok (.iadd, 1) := by decide +kernel
theorem dX6_wishByRules_25 : decode cX6_wishByRules 25 = .ok (.aload 4, 2) := by decide +kernel
theorem dX6_wishByRules_27 : decode cX6_wishByRules 27 = .ok (.arraylength, 1) := by decide +kernel
theorem dX6_wishByRules_28 : decode cX6_wishByRules 28 = .ok (.if_icmp .ge 99, 3) := by decide +kernel
theorem dX6_wishByRules_31 : decode cX6_wishByRules 31 = .ok (.aload 4, 2) := by decide +kernel
theorem dX6_wishByRules_33 : decode cX6_wishByRules 33 = .ok (.iload 5, 2) := by decide +kernel
theorem dX6_wishByRules_35 : decode cX6_wishByRules 35 = .ok (.iaload, 1) := by decide +kernel
theorem dX6_wishByRules_36 : decode cX6_wishByRules 36 = .ok (.istore 7, 2) := by decide +kernel
theorem dX6_wishByRules_38 : decode cX6_wishByRules 38 = .ok (.aload 4, 2) := by decide +kernel
theorem dX6_wishByRules_40 : decode cX6_wishByRules 40 = .ok (.iload 5, 2) := by decide +kernel
theorem dX6_wishByRules_42 : decode cX6_wishByRules 42 = .ok (.iconst 1, 1) := by decide +kernel
theorem dX6_wishByRules_43 : decode cX6_wishByRules 43 = .ok (.iadd, 1) := by decide +kernel
theorem dX6_wishByRules_44 : decode cX6_wishByRules 44 = .ok (.iaload, 1) := by decide +kernel
theorem dX6_wishByRules_45 : decode cX6_wishByRules 45 = .ok (.aload 4, 2) := by decide +kernel
theorem dX6_wishByRules_47 : decode cX6_wishByRules 47 = .ok (.arraylength, 1) := by decide +kernel
theorem dX6_wishByRules_48 : decode cX6_wishByRules 48 = .ok (.invokestatic 85, 3) := by decide +kernel
theorem dX6_wishByRules_51 : decode cX6_wishByRules 51 = .ok (.istore 8, 2) := by decide +kernel
theorem dX6_wishByRules_53 : decode cX6_wishByRules 53 = .ok (.aload_n 0, 1) := by decide +kernel
theorem dX6_wishByRules_54 : decode cX6_wishByRules 54 = .ok (.aload 4, 2) := by decide +kernel
theorem dX6_wishByRules_56 : decode cX6_wishByRules 56 = .ok (.iload 5, 2) := by decide +kernel
theorem dX6_wishByRules_58 : decode cX6_wishByRules 58 = .ok (.iconst 2, 1) := by decide +kernel
theorem dX6_wishByRules_59 : decode cX6_wishByRules 59 = .ok (.iadd, 1) := by decide +kernel
theorem dX6_wishByRules_60 : decode cX6_wishByRules 60 = .ok (.iload 8, 2) := by decide +kernel
theorem dX6_wishByRules_62 : decode cX6_wishByRules 62 = .ok (.invokevirtual 88, 3) := by decide +kernel
theorem dX6_wishByRules_65 : decode cX6_wishByRules 65 = .ok (.ifCond .eq 52, 3) := by decide +kernel
theorem dX6_wishByRules_68 : decode cX6_wishByRules 68 = .ok (.aload_n 0, 1) := by decide +kernel
theorem dX6_wishByRules_69 : decode cX6_wishByRules 69 = .ok (.iload 7, 2) := by decide +kernel
theorem dX6_wishByRules_71 : decode cX6_wishByRules 71 = .ok (.invokestatic 92, 3) := by decide +kernel
theorem dX6_wishByRules_74 : decode cX6_wishByRules 74 = .ok (.putfield 33, 3) := by decide +kernel
theorem dX6_wishByRules_77 : decode cX6_wishByRules 77 = .ok (.aload_n 0, 1) := by decide +kernel
theorem dX6_wishByRules_78 : decode cX6_wishByRules 78 = .ok (.getfield 33, 3) := by decide +kernel
theorem dX6_wishByRules_81 : decode cX6_wishByRules 81 = .ok (.iconst 2, 1) := by decide +kernel
theorem dX6_wishByRules_82 : decode cX6_wishByRules 82 = .ok (.if_icmp .ne 7, 3) := by decide +kernel
theorem dX6_wishByRules_85 : decode cX6_wishByRules 85 = .ok (.iload_n 2, 1) := by decide +kernel
theorem dX6_wishByRules_86 : decode cX6_wishByRules 86 = .ok (.goto 10, 3) := by decide +kernel
theorem dX6_wishByRules_89 : decode cX6_wishByRules 89 = .ok (.aload_n 0, 1) := by decide +kernel
theorem dX6_wishByRules_90 : decode cX6_wishByRules 90 = .ok (.iload 7, 2) := by decide +kernel
theorem dX6_wishByRules_92 : decode cX6_wishByRules 92 = .ok (.iload_n 3, 1) := by decide +kernel
theorem dX6_wishByRules_93 : decode cX6_wishByRules 93 = .ok (.invokevirtual 96, 3) := by decide +kernel
theorem dX6_wishByRules_96 : decode cX6_wishByRules 96 = .ok (.istore 9, 2) := by decide +kernel
theorem dX6_wishByRules_98 : decode cX6_wishByRules 98 = .ok (.iload 9, 2) := by decide +kernel
theorem dX6_wishByRules_100 : decode cX6_wishByRules 100 = .ok (.iconst (-1), 1) := by decide +kernel
theorem dX6_wishByRules_101 : decode cX6_wishByRules 101 = .ok (.if_icmp .eq 16, 3) := by decide +kernel
theorem dX6_wishByRules_104 : decode cX6_wishByRules 104 = .ok (.aload_n 0, 1) := by decide +kernel
theorem dX6_wishByRules_105 : decode cX6_wishByRules 105 = .ok (.iload_n 2, 1) := by decide +kernel
theorem dX6_wishByRules_106 : decode cX6_wishByRules 106 = .ok (.iload 9, 2) := by decide +kernel
theorem dX6_wishByRules_108 : decode cX6_wishByRules 108 = .ok (.iload 7, 2) := by decide +kernel
theorem dX6_wishByRules_110 : decode cX6_wishByRules 110 = .ok (.invokestatic 99, 3) := by decide +kernel
theorem dX6_wishByRules_113 : decode cX6_wishByRules 113 = .ok (.invokevirtual 102, 3) := by decide +kernel
theorem dX6_wishByRules_116 : decode cX6_wishByRules 116 = .ok (.ireturn, 1) := by decide +kernel
theorem dX6_wishByRules_117 : decode cX6_wishByRules 117 = .ok (.iload 8, 2) := by decide +kernel
theorem dX6_wishByRules_119 : decode cX6_wishByRules 119 = .ok (.istore 5, 2) := by decide +kernel
theorem dX6_wishByRules_121 : decode cX6_wishByRules 121 = .ok (.iinc 6 1, 3) := by decide +kernel
theorem dX6_wishByRules_124 : decode cX6_wishByRules 124 = .ok (.goto (-112), 3) := by decide +kernel
theorem dX6_wishByRules_127 : decode cX6_wishByRules 127 = .ok (.aload_n 0, 1) := by decide +kernel
theorem dX6_wishByRules_128 : decode cX6_wishByRules 128 = .ok (.iconst 2, 1) := by decide +kernel
theorem dX6_wishByRules_129 : decode cX6_wishByRules 129 = .ok (.putfield 33, 3) := by decide +kernel
theorem dX6_wishByRules_132 : decode cX6_wishByRules 132 = .ok (.iload_n 2, 1) := by decide +kernel
theorem dX6_wishByRules_133 : decode cX6_wishByRules 133 = .ok (.ireturn, 1) := by decide +kernel
theorem dX6_meanOf_0 : decode cX6_meanOf 0 = .ok (.iload_n 1, 1) := by decide +kernel
theorem dX6_meanOf_1 : decode cX6_meanOf 1 = .ok (.invokestatic 106, 3) := by decide +kernel
theorem dX6_meanOf_4 : decode cX6_meanOf 4 = .ok (.istore_n 3, 1) := by decide +kernel
theorem dX6_meanOf_5 : decode cX6_meanOf 5 = .ok (.iload_n 1, 1) := by decide +kernel
theorem dX6_meanOf_6 : decode cX6_meanOf 6 = .ok (.invokestatic 109, 3) := by decide +kernel
theorem dX6_meanOf_9 : decode cX6_meanOf 9 = .ok (.istore 4, 2) := by decide +kernel
theorem dX6_meanOf_11 : decode cX6_meanOf 11 = .ok (.iload_n 3, 1) := by decide +kernel
theorem dX6_meanOf_12 : decode cX6_meanOf 12 = .ok (.iconst 3, 1) := by decide +kernel
theorem dX6_meanOf_13 : decode cX6_meanOf 13 = .ok (.if_icmp .gt 10, 3) := by decide +kernel
theorem dX6_meanOf_16 : decode cX6_meanOf 16 = .ok (.aload_n 0, 1) := by decide +kernel
theorem dX6_meanOf_17 : decode cX6_meanOf 17 = .ok (.getfield 30, 3) := by decide +kernel
theorem dX6_meanOf_20 : decode cX6_meanOf 20 = .ok (.iload_n 3, 1) := by decide +kernel
theorem dX6_meanOf_21 : decode cX6_meanOf 21 = .ok (.iaload, 1) := by decide +kernel
theorem dX6_meanOf_22 : decode cX6_meanOf 22 = .ok (.ireturn, 1) := by decide +kernel
theorem dX6_meanOf_23 : decode cX6_meanOf 23 = .ok (.iload_n 3, 1) := by decide +kernel
theorem dX6_meanOf_24 : decode cX6_meanOf 24 = .ok (.iconst 4, 1) := by decide +kernel
theorem dX6_meanOf_25 : decode cX6_meanOf 25 = .ok (.if_icmp .ne 18, 3) := by decide +kernel
theorem dX6_meanOf_28 : decode cX6_meanOf 28 = .ok (.aload_n 0, 1) := by decide +kernel
theorem dX6_meanOf_29 : decode cX6_meanOf 29 = .ok (.getfield 15, 3) := by decide +kernel
theorem dX6_meanOf_32 : decode cX6_meanOf 32 = .ok (.iload 4, 2) := by decide +kernel
theorem dX6_meanOf_34 : decode cX6_meanOf 34 = .ok (.iconst 3, 1) := by decide +kernel
theorem dX6_meanOf_35 : decode cX6_meanOf 35 = .ok (.invokestatic 85, 3) := by decide +kernel
theorem dX6_meanOf_38 : decode cX6_meanOf 38 = .ok (.iload_n 2, 1) := by decide +kernel
theorem dX6_meanOf_39 : decode cX6_meanOf 39 = .ok (.invokevirtual 112, 3) := by decide +kernel
theorem dX6_meanOf_42 : decode cX6_meanOf 42 = .ok (.ireturn, 1) := by decide +kernel
theorem dX6_meanOf_43 : decode cX6_meanOf 43 = .ok (.iload_n 2, 1) := by decide +kernel
theorem dX6_meanOf_44 : decode cX6_meanOf 44 = .ok (.iload 4, 2) := by decide +kernel
theorem dX6_meanOf_46 : decode cX6_meanOf 46 = .ok (.isub, 1) := by decide +kernel
theorem dX6_meanOf_47 : decode cX6_meanOf 47 = .ok (.ifCond .lt 7, 3) := by decide +kernel
theorem dX6_meanOf_50 : decode cX6_meanOf 50 = .ok (.iconst 1, 1) := by decide +kernel
theorem dX6_meanOf_51 : decode cX6_meanOf 51 = .ok (.goto 4, 3) := by decide +kernel
theorem dX6_meanOf_54 : decode cX6_meanOf 54 = .ok (.iconst 0, 1) := by decide +kernel
theorem dX6_meanOf_55 : decode cX6_meanOf 55 = .ok (.istore 5, 2) := by decide +kernel
theorem dX6_meanOf_57 : decode cX6_meanOf 57 = .ok (.iload 5, 2) := by decide +kernel
theorem dX6_meanOf_59 : decode cX6_meanOf 59 = .ok (.ifCond .eq 36, 3) := by decide +kernel
theorem dX6_meanOf_62 : decode cX6_meanOf 62 = .ok (.aload_n 0, 1) := by decide +kernel
theorem dX6_meanOf_63 : decode cX6_meanOf 63 = .ok (.getfield 9, 3) := by decide +kernel
theorem dX6_meanOf_66 : decode cX6_meanOf 66 = .ok (.getfield 73, 3) := by decide +kernel
theorem dX6_meanOf_69 : decode cX6_meanOf 69 = .ok (.ifCond .le 26, 3) := by decide +kernel
theorem dX6_meanOf_72 : decode cX6_meanOf 72 = .ok (.aload_n 0, 1) := by decide +kernel
theorem dX6_meanOf_73 : decode cX6_meanOf 73 = .ok (.getfield 15, 3) := by decide +kernel
theorem dX6_meanOf_76 : decode cX6_meanOf 76 = .ok (.getfield 115, 3) := by decide +kernel
theorem dX6_meanOf_79 : decode cX6_meanOf 79 = .ok (.iload_n 2, 1) := by decide +kernel
theorem dX6_meanOf_80 : decode cX6_meanOf 80 = .ok (.iload 4, 2) := by decide +kernel
theorem dX6_meanOf_82 : decode cX6_meanOf 82 = .ok (.isub, 1) := by decide +kernel
theorem dX6_meanOf_83 : decode cX6_meanOf 83 = .ok (.iaload, 1) := by decide +kernel
theorem dX6_meanOf_84 : decode cX6_meanOf 84 = .ok (.aload_n 0, 1) := by decide +kernel
theorem dX6_meanOf_85 : decode cX6_meanOf 85 = .ok (.getfield 9, 3) := by decide +kernel
theorem dX6_meanOf_88 : decode cX6_meanOf 88 = .ok (.getfield 73, 3) := by decide +kernel
theorem dX6_meanOf_91 : decode cX6_meanOf 91 = .ok (.idiv, 1) := by decide +kernel
theorem dX6_meanOf_92 : decode cX6_meanOf 92 = .ok (.goto 4, 3) := by decide +kernel
theorem dX6_meanOf_95 : decode cX6_meanOf 95 = .ok (.iconst (-1), 1) := by decide +kernel
theorem dX6_meanOf_96 : decode cX6_meanOf 96 = .ok (.ireturn, 1) := by decide +kernel
theorem dX6_goal_0 : decode cX6_goal 0 = .ok (.aload_n 0, 1) := by decide +kernel
theorem dX6_goal_1 : decode cX6_goal 1 = .ok (.getfield 33, 3) := by decide +kernel
theorem dX6_goal_4 : decode cX6_goal 4 = .ok (.ifCond .ne 26, 3) := by decide +kernel
theorem dX6_goal_7 : decode cX6_goal 7 = .ok (.iload_n 1, 1) := by decide +kernel
theorem dX6_goal_8 : decode cX6_goal 8 = .ok (.iload_n 2, 1) := by decide +kernel
theorem dX6_goal_9 : decode cX6_goal 9 = .ok (.if_icmp .ge 13, 3) := by decide +kernel
theorem dX6_goal_12 : decode cX6_goal 12 = .ok (.iload_n 2, 1) := by decide +kernel
theorem dX6_goal_13 : decode cX6_goal 13 = .ok (.iload_n 1, 1) := by decide +kernel
theorem dX6_goal_14 : decode cX6_goal 14 = .ok (.iload_n 3, 1) := by decide +kernel
theorem dX6_goal_15 : decode cX6_goal 15 = .ok (.iadd, 1) := by decide +kernel
theorem dX6_goal_16 : decode cX6_goal 16 = .ok (.invokestatic 85, 3) := by decide +kernel
theorem dX6_goal_19 : decode cX6_goal 19 = .ok (.goto 10, 3) := by decide +kernel
theorem dX6_goal_22 : decode cX6_goal 22 = .ok (.iload_n 2, 1) := by decide +kernel
theorem dX6_goal_23 : decode cX6_goal 23 = .ok (.iload_n 1, 1) := by decide +kernel
theorem dX6_goal_24 : decode cX6_goal 24 = .ok (.iload_n 3, 1) := by decide +kernel
theorem dX6_goal_25 : decode cX6_goal 25 = .ok (.isub, 1) := by decide +kernel
theorem dX6_goal_26 : decode cX6_goal 26 = .ok (.invokestatic 58, 3) := by decide +kernel
theorem dX6_goal_29 : decode cX6_goal 29 = .ok (.ireturn, 1) := by decide +kernel
theorem dX6_goal_30 : decode cX6_goal 30 = .ok (.aload_n 0, 1) := by decide +kernel
theorem dX6_goal_31 : decode cX6_goal 31 = .ok (.getfield 33, 3) := by decide +kernel
theorem dX6_goal_34 : decode cX6_goal 34 = .ok (.iconst 1, 1) := by decide +kernel
theorem dX6_goal_35 : decode cX6_goal 35 = .ok (.if_icmp .ne 37, 3) := by decide +kernel
theorem dX6_goal_38 : decode cX6_goal 38 = .ok (.iload_n 1, 1) := by decide +kernel
theorem dX6_goal_39 : decode cX6_goal 39 = .ok (.iload_n 2, 1) := by decide +kernel
theorem dX6_goal_40 : decode cX6_goal 40 = .ok (.isub, 1) := by decide +kernel
theorem dX6_goal_41 : decode cX6_goal 41 = .ok (.invokestatic 118, 3) := by decide +kernel
theorem dX6_goal_44 : decode cX6_goal 44 = .ok (.iload_n 3, 1) := by decide +kernel
theorem dX6_goal_45 : decode cX6_goal 45 = .ok (.if_icmp .ge 27, 3) := by decide +kernel
theorem dX6_goal_48 : decode cX6_goal 48 = .ok (.iload_n 1, 1) := by decide +kernel
theorem dX6_goal_49 : decode cX6_goal 49 = .ok (.iload_n 2, 1) := by decide +kernel
theorem dX6_goal_50 : decode cX6_goal 50 = .ok (.if_icmp .lt 14, 3) := by decide +kernel
theorem dX6_goal_53 : decode cX6_goal 53 = .ok (.bipush 60, 2) := by decide +kernel
theorem dX6_goal_55 : decode cX6_goal 55 = .ok (.iload_n 2, 1) := by decide +kernel
theorem dX6_goal_56 : decode cX6_goal 56 = .ok (.iload_n 3, 1) := by decide +kernel
theorem dX6_goal_57 : decode cX6_goal 57 = .ok (.iadd, 1) := by decide +kernel
theorem dX6_goal_58 : decode cX6_goal 58 = .ok (.invokestatic 85, 3) := by decide +kernel
theorem dX6_goal_61 : decode cX6_goal 61 = .ok (.goto 10, 3) := by decide +kernel
theorem dX6_goal_64 : decode cX6_goal 64 = .ok (.iconst 0, 1) := by decide +kernel
theorem dX6_goal_65 : decode cX6_goal 65 = .ok (.iload_n 2, 1) := by decide +kernel
theorem dX6_goal_66 : decode cX6_goal 66 = .ok (.iload_n 3, 1) := by decide +kernel
theorem dX6_goal_67 : decode cX6_goal 67 = .ok (.isub, 1) := by decide +kernel
theorem dX6_goal_68 : decode cX6_goal 68 = .ok (.invokestatic 58, 3) := by decide +kernel
theorem dX6_goal_71 : decode cX6_goal 71 = .ok (.ireturn, 1) := by decide +kernel
theorem dX6_goal_72 : decode cX6_goal 72 = .ok (.iload_n 1, 1) := by decide +kernel
theorem dX6_goal_73 : decode cX6_goal 73 = .ok (.ireturn, 1) := by decide +kernel
theorem dX6_holds_0 : decode cX6_holds 0 = .ok (.iconst 1, 1) := by decide +kernel
theorem dX6_holds_1 : decode cX6_holds 1 = .ok (.istore 4, 2) := by decide +kernel
theorem dX6_holds_3 : decode cX6_holds 3 = .ok (.iload_n 2, 1) := by decide +kernel
theorem dX6_holds_4 : decode cX6_holds 4 = .ok (.istore 5, 2) := by decide +kernel
theorem dX6_holds_6 : decode cX6_holds 6 = .ok (.iload 5, 2) := by decide +kernel
theorem dX6_holds_8 : decode cX6_holds 8 = .ok (.iload_n 3, 1) := by decide +kernel
theorem dX6_holds_9 : decode cX6_holds 9 = .ok (.if_icmp .ge 121, 3) := by decide +kernel
theorem dX6_holds_12 : decode cX6_holds 12 = .ok (.aload_n 1, 1) := by decide +kernel
theorem dX6_holds_13 : decode cX6_holds 13 = .ok (.iload 5, 2) := by decide +kernel
theorem dX6_holds_15 : decode cX6_holds 15 = .ok (.iaload, 1) := by decide +kernel
theorem dX6_holds_16 : decode cX6_holds 16 = .ok (.istore 6, 2) := by decide +kernel
theorem dX6_holds_18 : decode cX6_holds 18 = .ok (.iload 4, 2) := by decide +kernel
theorem dX6_holds_20 : decode cX6_holds 20 = .ok (.iconst 1, 1) := by decide +kernel
theorem dX6_holds_21 : decode cX6_holds 21 = .ok (.iand, 1) := by decide +kernel
theorem dX6_holds_22 : decode cX6_holds 22 = .ok (.istore 7, 2) := by decide +kernel
theorem dX6_holds_24 : decode cX6_holds 24 = .ok (.iload 6, 2) := by decide +kernel
theorem dX6_holds_26 : decode cX6_holds 26 = .ok (.iconst (-1), 1) := by decide +kernel
theorem dX6_holds_27 : decode cX6_holds 27 = .ok (.if_icmp .ne 12, 3) := by decide +kernel
theorem dX6_holds_30 : decode cX6_holds 30 = .ok (.iload 4, 2) := by decide +kernel
theorem dX6_holds_32 : decode cX6_holds 32 = .ok (.iconst 1, 1) := by decide +kernel
theorem dX6_holds_33 : decode cX6_holds 33 = .ok (.ixor, 1) := by decide +kernel
theorem dX6_holds_34 : decode cX6_holds 34 = .ok (.istore 4, 2) := by decide +kernel
theorem dX6_holds_36 : decode cX6_holds 36 = .ok (.goto 88, 3) := by decide +kernel
theorem dX6_holds_39 : decode cX6_holds 39 = .ok (.iload 6, 2) := by decide +kernel
theorem dX6_holds_41 : decode cX6_holds 41 = .ok (.bipush (-2), 2) := by decide +kernel
theorem dX6_holds_43 : decode cX6_holds 43 = .ok (.if_icmp .ne 18, 3) := by decide +kernel
theorem dX6_holds_46 : decode cX6_holds 46 = .ok (.iload 4, 2) := by decide +kernel
theorem dX6_holds_48 : decode cX6_holds 48 = .ok (.iconst 1, 1) := by decide +kernel
theorem dX6_holds_49 : decode cX6_holds 49 = .ok (.iushr, 1) := by decide +kernel
theorem dX6_holds_50 : decode cX6_holds 50 = .ok (.iload 7, 2) := by decide +kernel
theorem dX6_holds_52 : decode cX6_holds 52 = .ok (.bipush (-2), 2) := by decide +kernel
theorem dX6_holds_54 : decode cX6_holds 54 = .ok (.ior, 1) := by decide +kernel
theorem dX6_holds_55 : decode cX6_holds 55 = .ok (.iand, 1) := by decide +kernel
theorem dX6_holds_56 : decode cX6_holds 56 = .ok (.istore 4, 2) := by decide +kernel
theorem dX6_holds_58 : decode cX6_holds 58 = .ok (.goto 66, 3) := by decide +kernel
theorem dX6_holds_61 : decode cX6_holds 61 = .ok (.iload 6, 2) := by decide +kernel
theorem dX6_holds_63 : decode cX6_holds 63 = .ok (.bipush (-3), 2) := by decide +kernel
theorem dX6_holds_65 : decode cX6_holds 65 = .ok (.if_icmp .ne 15, 3) := by decide +kernel
theorem dX6_holds_68 : decode cX6_holds 68 = .ok (.iload 4, 2) := by decide +kernel
theorem dX6_holds_70 : decode cX6_holds 70 = .ok (.iconst 1, 1) := by decide +kernel
theorem dX6_holds_71 : decode cX6_holds 71 = .ok (.iushr, 1) := by decide +kernel
theorem dX6_holds_72 : decode cX6_holds 72 = .ok (.iload 7, 2) := by decide +kernel
theorem dX6_holds_74 : decode cX6_holds 74 = .ok (.ior, 1) := by decide +kernel
theorem dX6_holds_75 : decode cX6_holds 75 = .ok (.istore 4, 2) := by decide +kernel
theorem dX6_holds_77 : decode cX6_holds 77 = .ok (.goto 47, 3) := by decide +kernel
theorem dX6_holds_80 : decode cX6_holds 80 = .ok (.iload 6, 2) := by decide +kernel
theorem dX6_holds_82 : decode cX6_holds 82 = .ok (.invokestatic 121, 3) := by decide +kernel
theorem dX6_holds_85 : decode cX6_holds 85 = .ok (.aload_n 0, 1) := by decide +kernel
theorem dX6_holds_86 : decode cX6_holds 86 = .ok (.getfield 21, 3) := by decide +kernel
theorem dX6_holds_89 : decode cX6_holds 89 = .ok (.arraylength, 1) := by decide +kernel
theorem dX6_holds_90 : decode cX6_holds 90 = .ok (.iconst 1, 1) := by decide +kernel
theorem dX6_holds_91 : decode cX6_holds 91 = .ok (.isub, 1) := by decide +kernel
theorem dX6_holds_92 : decode cX6_holds 92 = .ok (.invokestatic 85, 3) := by decide +kernel
theorem dX6_holds_95 : decode cX6_holds 95 = .ok (.istore 8, 2) := by decide +kernel
theorem dX6_holds_97 : decode cX6_holds 97 = .ok (.iload 4, 2) := by decide +kernel
theorem dX6_holds_99 : decode cX6_holds 99 = .ok (.iconst 1, 1) := by decide +kernel
theorem dX6_holds_100 : decode cX6_holds 100 = .ok (.ishl, 1) := by decide +kernel
theorem dX6_holds_101 : decode cX6_holds 101 = .ok (.iload 6, 2) := by decide +kernel
theorem dX6_holds_103 : decode cX6_holds 103 = .ok (.aload_n 0, 1) := by decide +kernel
theorem dX6_holds_104 : decode cX6_holds 104 = .ok (.getfield 21, 3) := by decide +kernel
theorem dX6_holds_107 : decode cX6_holds 107 = .ok (.iload 8, 2) := by decide +kernel
theorem dX6_holds_109 : decode cX6_holds 109 = .ok (.iaload, 1) := by decide +kernel
theorem dX6_holds_110 : decode cX6_holds 110 = .ok (.invokestatic 124, 3) := by decide +kernel
theorem dX6_holds_113 : decode cX6_holds 113 = .ok (.ifCond .eq 7, 3) := by decide +kernel
theorem dX6_holds_116 : decode cX6_holds 116 = .ok (.iconst 1, 1) := by decide +kernel
theorem dX6_holds_117 : decode cX6_holds 117 = .ok (.goto 4, 3) := by decide +kernel
theorem dX6_holds_120 : decode cX6_holds 120 = .ok (.iconst 0, 1) := by decide +kernel
theorem dX6_holds_121 : decode cX6_holds 121 = .ok (.ior, 1) := by decide +kernel
theorem dX6_holds_122 : decode cX6_holds 122 = .ok (.istore 4, 2) := by decide +kernel
theorem dX6_holds_124 : decode cX6_holds 124 = .ok (.iinc 5 1, 3) := by decide +kernel
theorem dX6_holds_127 : decode cX6_holds 127 = .ok (.goto (-121), 3) := by decide +kernel
theorem dX6_holds_130 : decode cX6_holds 130 = .ok (.iload 4, 2) := by decide +kernel
theorem dX6_holds_132 : decode cX6_holds 132 = .ok (.iconst 1, 1) := by decide +kernel
theorem dX6_holds_133 : decode cX6_holds 133 = .ok (.iand, 1) := by decide +kernel
theorem dX6_holds_134 : decode cX6_holds 134 = .ok (.iconst 1, 1) := by decide +kernel
theorem dX6_holds_135 : decode cX6_holds 135 = .ok (.if_icmp .ne 7, 3) := by decide +kernel
theorem dX6_holds_138 : decode cX6_holds 138 = .ok (.iconst 1, 1) := by decide +kernel
theorem dX6_holds_139 : decode cX6_holds 139 = .ok (.goto 4, 3) := by decide +kernel
theorem dX6_holds_142 : decode cX6_holds 142 = .ok (.iconst 0, 1) := by decide +kernel
theorem dX6_holds_143 : decode cX6_holds 143 = .ok (.ireturn, 1) := by decide +kernel
theorem dX7_init_0 : decode cX7_init 0 = .ok (.aload_n 0, 1) := by decide +kernel
theorem dX7_init_1 : decode cX7_init 1 = .ok (.invokespecial 3, 3) := by decide +kernel
theorem dX7_init_4 : decode cX7_init 4 = .ok (.aload_n 0, 1) := by decide +kernel
theorem dX7_init_5 : decode cX7_init 5 = .ok (.aload_n 1, 1) := by decide +kernel
theorem dX7_init_6 : decode cX7_init 6 = .ok (.putfield 9, 3) := by decide +kernel
theorem dX7_init_9 : decode cX7_init 9 = .ok (.aload_n 0, 1) := by decide +kernel
theorem dX7_init_10 : decode cX7_init 10 = .ok (.bipush 61, 2) := by decide +kernel
theorem dX7_init_12 : decode cX7_init 12 = .ok (.newarray .int, 2) := by decide +kernel
theorem dX7_init_14 : decode cX7_init 14 = .ok (.putfield 15, 3) := by decide +kernel
theorem dX7_init_17 : decode cX7_init 17 = .ok (.aload_n 0, 1) := by decide +kernel
theorem dX7_init_18 : decode cX7_init 18 = .ok (.bipush 61, 2) := by decide +kernel
theorem dX7_init_20 : decode cX7_init 20 = .ok (.newarray .int, 2) := by decide +kernel
theorem dX7_init_22 : decode cX7_init 22 = .ok (.putfield 19, 3) := by decide +kernel
theorem dX7_init_25 : decode cX7_init 25 = .ok (.aload_n 0, 1) := by decide +kernel
theorem dX7_init_26 : decode cX7_init 26 = .ok (.sipush 366, 3) := by decide +kernel
theorem dX7_init_29 : decode cX7_init 29 = .ok (.newarray .int, 2) := by decide +kernel
theorem dX7_init_31 : decode cX7_init 31 = .ok (.putfield 22, 3) := by decide +kernel
theorem dX7_init_34 : decode cX7_init 34 = .ok (.aload_n 0, 1) := by decide +kernel
theorem dX7_init_35 : decode cX7_init 35 = .ok (.bipush 6, 2) := by decide +kernel
theorem dX7_init_37 : decode cX7_init 37 = .ok (.newarray .int, 2) := by decide +kernel
theorem dX7_init_39 : decode cX7_init 39 = .ok (.putfield 25, 3) := by decide +kernel
theorem dX7_init_42 : decode cX7_init 42 = .ok (.aload_n 0, 1) := by decide +kernel
theorem dX7_init_43 : decode cX7_init 43 = .ok (.iconst 0, 1) := by decide +kernel
theorem dX7_init_44 : decode cX7_init 44 = .ok (.putfield 28, 3) := by decide +kernel
theorem dX7_init_47 : decode cX7_init 47 = .ok (.return_, 1) := by decide +kernel
theorem dX7_order_0 : decode cX7_order 0 = .ok (.iconst 0, 1) := by decide +kernel
theorem dX7_order_1 : decode cX7_order 1 = .ok (.istore_n 2, 1) := by decide +kernel
theorem dX7_order_2 : decode cX7_order 2 = .ok (.iload_n 2, 1) := by decide +kernel
theorem dX7_order_3 : decode cX7_order 3 = .ok (.iload_n 1, 1) := by decide +kernel
theorem dX7_order_4 : decode cX7_order 4 = .ok (.if_icmp .ge 52, 3) := by decide +kernel
theorem dX7_order_7 : decode cX7_order 7 = .ok (.iconst 0, 1) := by decide +kernel
theorem dX7_order_8 : decode cX7_order 8 = .ok (.istore_n 3, 1) := by decide +kernel
theorem dX7_order_9 : decode cX7_order 9 = .ok (.iload_n 3, 1) := by decide +kernel
theorem dX7_order_10 : decode cX7_order 10 = .ok (.bipush 60, 2) := by decide +kernel
theorem dX7_order_12 : decode cX7_order 12 = .ok (.if_icmp .gt 38, 3) := by decide +kernel
theorem dX7_order_15 : decode cX7_order 15 = .ok (.aload_n 0, 1) := by decide +kernel
theorem dX7_order_16 : decode cX7_order 16 = .ok (.getfield 22, 3) := by decide +kernel
theorem dX7_order_19 : decode cX7_order 19 = .ok (.iload_n 2, 1) := by decide +kernel
theorem dX7_order_20 : decode cX7_order 20 = .ok (.bipush 61, 2) := by decide +kernel
theorem dX7_order_22 : decode cX7_order 22 = .ok (.imul, 1) := by decide +kernel
theorem dX7_order_23 : decode cX7_order 23 = .ok (.iload_n 3, 1) := by decide +kernel
theorem dX7_order_24 : decode cX7_order 24 = .ok (.iadd, 1) := by decide +kernel
theorem dX7_order_25 : decode cX7_order 25 = .ok (.iload_n 2, 1) := by decide +kernel
theorem dX7_order_26 : decode cX7_order 26 = .ok (.ifCond .ne 11, 3) := by decide +kernel
theorem dX7_order_29 : decode cX7_order 29 = .ok (.aload_n 0, 1) := by decide +kernel
theorem dX7_order_30 : decode cX7_order 30 = .ok (.iload_n 3, 1) := by decide +kernel
theorem dX7_order_31 : decode cX7_order 31 = .ok (.invokevirtual 32, 3) := by decide +kernel
theorem dX7_order_34 : decode cX7_order 34 = .ok (.goto 9, 3) := by decide +kernel
theorem dX7_order_37 : decode cX7_order 37 = .ok (.aload_n 0, 1) := by decide +kernel
theorem dX7_order_38 : decode cX7_order 38 = .ok (.iload_n 3, 1) := by decide +kernel
theorem dX7_order_39 : decode cX7_order 39 = .ok (.iload_n 2, 1) := by decide +kernel
theorem dX7_order_40 : decode cX7_order 40 = .ok (.invokevirtual 36, 3) := by decide +kernel
theorem dX7_order_43 : decode cX7_order 43 = .ok (.iastore, 1) := by decide +kernel
theorem dX7_order_44 : decode cX7_order 44 = .ok (.iinc 3 1, 3) := by decide +kernel
theorem dX7_order_47 : decode cX7_order 47 = .ok (.goto (-38), 3) := by decide +kernel
theorem dX7_order_50 : decode cX7_order 50 = .ok (.iinc 2 1, 3) := by decide +kernel
theorem dX7_order_53 : decode cX7_order 53 = .ok (.goto (-51), 3) := by decide +kernel
theorem dX7_order_56 : decode cX7_order 56 = .ok (.aload_n 0, 1) := by decide +kernel
theorem dX7_order_57 : decode cX7_order 57 = .ok (.iconst (-1), 1) := by decide +kernel
theorem dX7_order_58 : decode cX7_order 58 = .ok (.iload_n 1, 1) := by decide +kernel
theorem dX7_order_59 : decode cX7_order 59 = .ok (.iconst 1, 1) := by decide +kernel
theorem dX7_order_60 : decode cX7_order 60 = .ok (.isub, 1) := by decide +kernel
theorem dX7_order_61 : decode cX7_order 61 = .ok (.invokevirtual 40, 3) := by decide +kernel
theorem dX7_order_64 : decode cX7_order 64 = .ok (.istore_n 2, 1) := by decide +kernel
theorem dX7_order_65 : decode cX7_order 65 = .ok (.aload_n 0, 1) := by decide +kernel
theorem dX7_order_66 : decode cX7_order 66 = .ok (.aload_n 0, 1) := by decide +kernel
theorem dX7_order_67 : decode cX7_order 67 = .ok (.iload_n 2, 1) := by decide +kernel
theorem dX7_order_68 : decode cX7_order 68 = .ok (.invokevirtual 43, 3) := by decide +kernel
theorem dX7_order_71 : decode cX7_order 71 = .ok (.aload_n 0, 1) := by decide +kernel
theorem dX7_order_72 : decode cX7_order 72 = .ok (.getfield 22, 3) := by decide +kernel
theorem dX7_order_75 : decode cX7_order 75 = .ok (.iload_n 1, 1) := by decide +kernel
theorem dX7_order_76 : decode cX7_order 76 = .ok (.iconst 1, 1) := by decide +kernel
theorem dX7_order_77 : decode cX7_order 77 = .ok (.isub, 1) := by decide +kernel
theorem dX7_order_78 : decode cX7_order 78 = .ok (.bipush 61, 2) := by decide +kernel
theorem dX7_order_80 : decode cX7_order 80 = .ok (.imul, 1) := by decide +kernel
theorem dX7_order_81 : decode cX7_order 81 = .ok (.iload_n 2, 1) := by decide +kernel
theorem dX7_order_82 : decode cX7_order 82 = .ok (.iadd, 1) := by decide +kernel
theorem dX7_order_83 : decode cX7_order 83 = .ok (.iaload, 1) := by decide +kernel
theorem dX7_order_84 : decode cX7_order 84 = .ok (.iadd, 1) := by decide +kernel
theorem dX7_order_85 : decode cX7_order 85 = .ok (.putfield 28, 3) := by decide +kernel
theorem dX7_order_88 : decode cX7_order 88 = .ok (.aload_n 0, 1) := by decide +kernel
theorem dX7_order_89 : decode cX7_order 89 = .ok (.getfield 25, 3) := by decide +kernel
theorem dX7_order_92 : decode cX7_order 92 = .ok (.iconst 0, 1) := by decide +kernel
theorem dX7_order_93 : decode cX7_order 93 = .ok (.iload_n 2, 1) := by decide +kernel
theorem dX7_order_94 : decode cX7_order 94 = .ok (.iastore, 1) := by decide +kernel
theorem dX7_order_95 : decode cX7_order 95 = .ok (.iconst 1, 1) := by decide +kernel
theorem dX7_order_96 : decode cX7_order 96 = .ok (.istore_n 3, 1) := by decide +kernel
theorem dX7_order_97 : decode cX7_order 97 = .ok (.iload_n 3, 1) := by decide +kernel
theorem dX7_order_98 : decode cX7_order 98 = .ok (.iload_n 1, 1) := by decide +kernel
theorem dX7_order_99 : decode cX7_order 99 = .ok (.if_icmp .ge 27, 3) := by decide +kernel
theorem dX7_order_102 : decode cX7_order 102 = .ok (.aload_n 0, 1) := by decide +kernel
theorem dX7_order_103 : decode cX7_order 103 = .ok (.iload_n 2, 1) := by decide +kernel
theorem dX7_order_104 : decode cX7_order 104 = .ok (.iload_n 1, 1) := by decide +kernel
theorem dX7_order_105 : decode cX7_order 105 = .ok (.iconst 1, 1) := by decide +kernel
theorem dX7_order_106 : decode cX7_order 106 = .ok (.isub, 1) := by decide +kernel
theorem dX7_order_107 : decode cX7_order 107 = .ok (.iload_n 3, 1) := by decide +kernel
theorem dX7_order_108 : decode cX7_order 108 = .ok (.isub, 1) := by decide +kernel
theorem dX7_order_109 : decode cX7_order 109 = .ok (.invokevirtual 40, 3) := by decide +kernel
theorem dX7_order_112 : decode cX7_order 112 = .ok (.istore_n 2, 1) := by decide +kernel
theorem dX7_order_113 : decode cX7_order 113 = .ok (.aload_n 0, 1) := by decide +kernel
theorem dX7_order_114 : decode cX7_order 114 = .ok (.getfield 25, 3) := by decide +kernel
theorem dX7_order_117 : decode cX7_order 117 = .ok (.iload_n 3, 1) := by decide +kernel
theorem dX7_order_118 : decode cX7_order 118 = .ok (.iload_n 2, 1) := by decide +kernel
theorem dX7_order_119 : decode cX7_order 119 = .ok (.iastore, 1) := by decide +kernel
theorem dX7_order_120 : decode cX7_order 120 = .ok (.iinc 3 1, 3) := by decide +kernel
theorem dX7_order_123 : decode cX7_order 123 = .ok (.goto (-26), 3) := by decide +kernel
theorem dX7_order_126 : decode cX7_order 126 = .ok (.return_, 1) := by decide +kernel
theorem dX7_gatherWishes_0 : decode cX7_gatherWishes 0 = .ok (.aload_n 0, 1) := by decide +kernel
theorem dX7_gatherWishes_1 : decode cX7_gatherWishes 1 = .ok (.getfield 15, 3) := by decide +kernel
theorem dX7_gatherWishes_4 : decode cX7_gatherWishes 4 = .ok (.iconst 0, 1) := by decide +kernel
theorem dX7_gatherWishes_5 : decode cX7_gatherWishes 5 = .ok (.invokestatic 46, 3) := by decide +kernel
theorem dX7_gatherWishes_8 : decode cX7_gatherWishes 8 = .ok (.iconst 0, 1) := by decide +kernel
theorem dX7_gatherWishes_9 : decode cX7_gatherWishes 9 = .ok (.istore_n 2, 1) := by decide +kernel
theorem dX7_gatherWishes_10 : decode cX7_gatherWishes 10 = .ok (.iload_n 2, 1) := by decide +kernel
theorem dX7_gatherWishes_11 : decode cX7_gatherWishes 11 = .ok (.aload_n 0, 1) := by decide +kernel
theorem dX7_gatherWishes_12 : decode cX7_gatherWishes 12 = .ok (.getfield 9, 3) := by decide +kernel
theorem dX7_gatherWishes_15 : decode cX7_gatherWishes 15 = .ok (.getfield 52, 3) := by decide +kernel
theorem dX7_gatherWishes_18 : decode cX7_gatherWishes 18 = .ok (.getfield 58, 3) := by decide +kernel
theorem dX7_gatherWishes_21 : decode cX7_gatherWishes 21 = .ok (.if_icmp .ge 39, 3) := by decide +kernel
theorem dX7_gatherWishes_24 : decode cX7_gatherWishes 24 = .ok (.aload_n 0, 1) := by decide +kernel
theorem dX7_gatherWishes_25 : decode cX7_gatherWishes 25 = .ok (.getfield 9, 3) := by decide +kernel
theorem dX7_gatherWishes_28 : decode cX7_gatherWishes 28 = .ok (.aload_n 1, 1) := by decide +kernel
theorem dX7_gatherWishes_29 : decode cX7_gatherWishes 29 = .ok (.iload_n 2, 1) := by decide +kernel
theorem dX7_gatherWishes_30 : decode cX7_gatherWishes 30 = .ok (.invokevirtual 63, 3) := by decide +kernel
theorem dX7_gatherWishes_33 : decode cX7_gatherWishes 33 = .ok (.istore_n 3, 1) := by decide +kernel
theorem dX7_gatherWishes_34 : decode cX7_gatherWishes 34 = .ok (.iload_n 3, 1) := by decide +kernel
theorem dX7_gatherWishes_35 : decode cX7_gatherWishes 35 = .ok (.iconst 0, 1) := by decide +kernel
theorem dX7_gatherWishes_36 : decode cX7_gatherWishes 36 = .ok (.bipush 60, 2) := by decide +kernel
theorem dX7_gatherWishes_38 : decode cX7_gatherWishes 38 = .ok (.invokestatic 67, 3) := by decide +kernel
theorem dX7_gatherWishes_41 : decode cX7_gatherWishes 41 = .ok (.ifCond .eq 13, 3) := by decide +kernel
theorem dX7_gatherWishes_44 : decode cX7_gatherWishes 44 = .ok (.aload_n 0, 1) := by decide +kernel
theorem dX7_gatherWishes_45 : decode cX7_gatherWishes 45 = .ok (.getfield 15, 3) := by decide +kernel
theorem dX7_gatherWishes_48 : decode cX7_gatherWishes 48 = .ok (.iload_n 3, 1) := by decide +kernel
theorem dX7_gatherWishes_49 : decode cX7_gatherWishes 49 = .ok (.dup2, 1) := by decide +kernel
theorem dX7_gatherWishes_50 : decode cX7_gatherWishes 50 = .ok (.iaload, 1) := by decide +kernel
theorem dX7_gatherWishes_51 : decode cX7_gatherWishes 51 = .ok (.iconst 1, 1) := by decide +kernel
theorem dX7_gatherWishes_52 : decode cX7_gatherWishes 52 = .ok (.iadd, 1) := by decide +kernel
theorem dX7_gatherWishes_53 : decode cX7_gatherWishes 53 = .ok (.iastore, 1) := by decide +kernel
theorem dX7_gatherWishes_54 : decode cX7_gatherWishes 54 = .ok (.iinc 2 1, 3) := by decide +kernel
theorem dX7_gatherWishes_57 : decode cX7_gatherWishes 57 = .ok (.goto (-47), 3) := by decide +kernel
theorem dX7_gatherWishes_60 : decode cX7_gatherWishes 60 = .ok (.aload_n 0, 1) := by decide +kernel
theorem dX7_gatherWishes_61 : decode cX7_gatherWishes 61 = .ok (.getfield 19, 3) := by decide +kernel
theorem dX7_gatherWishes_64 : decode cX7_gatherWishes 64 = .ok (.iconst 0, 1) := by decide +kernel
theorem dX7_gatherWishes_65 : decode cX7_gatherWishes 65 = .ok (.iconst 0, 1) := by decide +kernel
theorem dX7_gatherWishes_66 : decode cX7_gatherWishes 66 = .ok (.iastore, 1) := by decide +kernel
theorem dX7_gatherWishes_67 : decode cX7_gatherWishes 67 = .ok (.iconst 1, 1) := by decide +kernel
theorem dX7_gatherWishes_68 : decode cX7_gatherWishes 68 = .ok (.istore_n 2, 1) := by decide +kernel
theorem dX7_gatherWishes_69 : decode cX7_gatherWishes 69 = .ok (.iload_n 2, 1) := by decide +kernel
theorem dX7_gatherWishes_70 : decode cX7_gatherWishes 70 = .ok (.bipush 60, 2) := by decide +kernel
theorem dX7_gatherWishes_72 : decode cX7_gatherWishes 72 = .ok (.if_icmp .gt 49, 3) := by decide +kernel
theorem dX7_gatherWishes_75 : decode cX7_gatherWishes 75 = .ok (.aload_n 0, 1) := by decide +kernel
theorem dX7_gatherWishes_76 : decode cX7_gatherWishes 76 = .ok (.getfield 19, 3) := by decide +kernel
theorem dX7_gatherWishes_79 : decode cX7_gatherWishes 79 = .ok (.iload_n 2, 1) := by decide +kernel
theorem dX7_gatherWishes_80 : decode cX7_gatherWishes 80 = .ok (.aload_n 0, 1) := by decide +kernel
theorem dX7_gatherWishes_81 : decode cX7_gatherWishes 81 = .ok (.getfield 19, 3) := by decide +kernel
theorem dX7_gatherWishes_84 : decode cX7_gatherWishes 84 = .ok (.iload_n 2, 1) := by decide +kernel
theorem dX7_gatherWishes_85 : decode cX7_gatherWishes 85 = .ok (.iconst 1, 1) := by decide +kernel
theorem dX7_gatherWishes_86 : decode cX7_gatherWishes 86 = .ok (.isub, 1) := by decide +kernel
theorem dX7_gatherWishes_87 : decode cX7_gatherWishes 87 = .ok (.iaload, 1) := by decide +kernel
theorem dX7_gatherWishes_88 : decode cX7_gatherWishes 88 = .ok (.iload_n 2, 1) := by decide +kernel
theorem dX7_gatherWishes_89 : decode cX7_gatherWishes 89 = .ok (.aload_n 0, 1) := by decide +kernel
theorem dX7_gatherWishes_90 : decode cX7_gatherWishes 90 = .ok (.getfield 15, 3) := by decide +kernel
theorem dX7_gatherWishes_93 : decode cX7_gatherWishes 93 = .ok (.iload_n 2, 1) := by decide +kernel
theorem dX7_gatherWishes_94 : decode cX7_gatherWishes 94 = .ok (.iaload, 1) := by decide +kernel
theorem dX7_gatherWishes_95 : decode cX7_gatherWishes 95 = .ok (.imul, 1) := by decide +kernel
theorem dX7_gatherWishes_96 : decode cX7_gatherWishes 96 = .ok (.iadd, 1) := by decide +kernel
theorem dX7_gatherWishes_97 : decode cX7_gatherWishes 97 = .ok (.iastore, 1) := by decide +kernel
theorem dX7_gatherWishes_98 : decode cX7_gatherWishes 98 = .ok (.aload_n 0, 1) := by decide +kernel
theorem dX7_gatherWishes_99 : decode cX7_gatherWishes 99 = .ok (.getfield 15, 3) := by decide +kernel
theorem dX7_gatherWishes_102 : decode cX7_gatherWishes 102 = .ok (.iload_n 2, 1) := by decide +kernel
theorem dX7_gatherWishes_103 : decode cX7_gatherWishes 103 = .ok (.dup2, 1) := by decide +kernel
theorem dX7_gatherWishes_104 : decode cX7_gatherWishes 104 = .ok (.iaload, 1) := by decide +kernel
theorem dX7_gatherWishes_105 : decode cX7_gatherWishes 105 = .ok (.aload_n 0, 1) := by decide +kernel
theorem dX7_gatherWishes_106 : decode cX7_gatherWishes 106 = .ok (.getfield 15, 3) := by decide +kernel
theorem dX7_gatherWishes_109 : decode cX7_gatherWishes 109 = .ok (.iload_n 2, 1) := by decide +kernel
theorem dX7_gatherWishes_110 : decode cX7_gatherWishes 110 = .ok (.iconst 1, 1) := by decide +kernel
theorem dX7_gatherWishes_111 : decode cX7_gatherWishes 111 = .ok (.isub, 1) := by decide +kernel
theorem dX7_gatherWishes_112 : decode cX7_gatherWishes 112 = .ok (.iaload, 1) := by decide +kernel
theorem dX7_gatherWishes_113 : decode cX7_gatherWishes 113 = .ok (.iadd, 1) := by decide +kernel
theorem dX7_gatherWishes_114 : decode cX7_gatherWishes 114 = .ok (.iastore, 1) := by decide +kernel
theorem dX7_gatherWishes_115 : decode cX7_gatherWishes 115 = .ok (.iinc 2 1, 3) := by decide +kernel
theorem dX7_gatherWishes_118 : decode cX7_gatherWishes 118 = .ok (.goto (-49), 3) := by decide +kernel
theorem dX7_gatherWishes_121 : decode cX7_gatherWishes 121 = .ok (.return_, 1) := by decide +kernel
theorem dX7_leastBehind_0 : decode cX7_leastBehind 0 = .ok (.ldc 71, 2) := by decide +kernel
theorem dX7_leastBehind_2 : decode cX7_leastBehind 2 = .ok (.istore_n 3, 1) := by decide +kernel
theorem dX7_leastBehind_3 : decode cX7_leastBehind 3 = .ok (.iload_n 1, 1) := by decide +kernel
theorem dX7_leastBehind_4 : decode cX7_leastBehind 4 = .ok (.iconst 1, 1) := by decide +kernel
theorem dX7_leastBehind_5 : decode cX7_leastBehind 5 = .ok (.iadd, 1) := by decide +kernel
theorem dX7_leastBehind_6 : decode cX7_leastBehind 6 = .ok (.istore 4, 2) := by decide +kernel
theorem dX7_leastBehind_8 : decode cX7_leastBehind 8 = .ok (.iload 4, 2) := by decide +kernel
theorem dX7_leastBehind_10 : decode cX7_leastBehind 10 = .ok (.bipush 60, 2) := by decide +kernel
theorem dX7_leastBehind_12 : decode cX7_leastBehind 12 = .ok (.if_icmp .gt 36, 3) := by decide +kernel
theorem dX7_leastBehind_15 : decode cX7_leastBehind 15 = .ok (.iload_n 3, 1) := by decide +kernel
theorem dX7_leastBehind_16 : decode cX7_leastBehind 16 = .ok (.aload_n 0, 1) := by decide +kernel
theorem dX7_leastBehind_17 : decode cX7_leastBehind 17 = .ok (.iload_n 1, 1) := by decide +kernel
theorem dX7_leastBehind_18 : decode cX7_leastBehind 18 = .ok (.iload 4, 2) := by decide +kernel
theorem dX7_leastBehind_20 : decode cX7_leastBehind 20 = .ok (.invokevirtual 72, 3) := by decide +kernel
theorem dX7_leastBehind_23 : decode cX7_leastBehind 23 = .ok (.aload_n 0, 1) := by decide +kernel
theorem dX7_leastBehind_24 : decode cX7_leastBehind 24 = .ok (.getfield 22, 3) := by decide +kernel
theorem dX7_leastBehind_27 : decode cX7_leastBehind 27 = .ok (.iload_n 2, 1) := by decide +kernel
theorem dX7_leastBehind_28 : decode cX7_leastBehind 28 = .ok (.iconst 1, 1) := by decide +kernel
theorem dX7_leastBehind_29 : decode cX7_leastBehind 29 = .ok (.isub, 1) := by decide +kernel
theorem dX7_leastBehind_30 : decode cX7_leastBehind 30 = .ok (.bipush 61, 2) := by decide +kernel
theorem dX7_leastBehind_32 : decode cX7_leastBehind 32 = .ok (.imul, 1) := by decide +kernel
theorem dX7_leastBehind_33 : decode cX7_leastBehind 33 = .ok (.iload 4, 2) := by decide +kernel
theorem dX7_leastBehind_35 : decode cX7_leastBehind 35 = .ok (.iadd, 1) := by decide +kernel
theorem dX7_leastBehind_36 : decode cX7_leastBehind 36 = .ok (.iaload, 1) := by decide +kernel
theorem dX7_leastBehind_37 : decode cX7_leastBehind 37 = .ok (.iadd, 1) := by decide +kernel
theorem dX7_leastBehind_38 : decode cX7_leastBehind 38 = .ok (.invokestatic 75, 3) := by decide +kernel
theorem dX7_leastBehind_41 : decode cX7_leastBehind 41 = .ok (.istore_n 3, 1) := by decide +kernel
theorem dX7_leastBehind_42 : decode cX7_leastBehind 42 = .ok (.iinc 4 1, 3) := by decide +kernel
theorem dX7_leastBehind_45 : decode cX7_leastBehind 45 = .ok (.goto (-37), 3) := by decide +kernel
theorem dX7_leastBehind_48 : decode cX7_leastBehind 48 = .ok (.iload_n 3, 1) := by decide +kernel
theorem dX7_leastBehind_49 : decode cX7_leastBehind 49 = .ok (.ireturn, 1) := by decide +kernel
theorem dX7_leastFrom_0 : decode cX7_leastFrom 0 = .ok (.bipush 60, 2) := by decide +kernel
theorem dX7_leastFrom_2 : decode cX7_leastFrom 2 = .ok (.istore_n 3, 1) := by decide +kernel
theorem dX7_leastFrom_3 : decode cX7_leastFrom 3 = .ok (.ldc 71, 2) := by decide +kernel
theorem dX7_leastFrom_5 : decode cX7_leastFrom 5 = .ok (.istore 4, 2) := by decide +kernel
theorem dX7_leastFrom_7 : decode cX7_leastFrom 7 = .ok (.iload_n 1, 1) := by decide +kernel
theorem dX7_leastFrom_8 : decode cX7_leastFrom 8 = .ok (.iconst 1, 1) := by decide +kernel
theorem dX7_leastFrom_9 : decode cX7_leastFrom 9 = .ok (.iadd, 1) := by decide +kernel
theorem dX7_leastFrom_10 : decode cX7_leastFrom 10 = .ok (.istore 5, 2) := by decide +kernel
theorem dX7_leastFrom_12 : decode cX7_leastFrom 12 = .ok (.iload 5, 2) := by decide +kernel
theorem dX7_leastFrom_14 : decode cX7_leastFrom 14 = .ok (.bipush 60, 2) := by decide +kernel
theorem dX7_leastFrom_16 : decode cX7_leastFrom 16 = .ok (.if_icmp .gt 63, 3) := by decide +kernel
theorem dX7_leastFrom_19 : decode cX7_leastFrom 19 = .ok (.iload_n 1, 1) := by decide +kernel
theorem dX7_leastFrom_20 : decode cX7_leastFrom 20 = .ok (.iconst (-1), 1) := by decide +kernel
theorem dX7_leastFrom_21 : decode cX7_leastFrom 21 = .ok (.if_icmp .ne 12, 3) := by decide +kernel
theorem dX7_leastFrom_24 : decode cX7_leastFrom 24 = .ok (.aload_n 0, 1) := by decide +kernel
theorem dX7_leastFrom_25 : decode cX7_leastFrom 25 = .ok (.iload 5, 2) := by decide +kernel
theorem dX7_leastFrom_27 : decode cX7_leastFrom 27 = .ok (.invokevirtual 43, 3) := by decide +kernel
theorem dX7_leastFrom_30 : decode cX7_leastFrom 30 = .ok (.goto 10, 3) := by decide +kernel
theorem dX7_leastFrom_33 : decode cX7_leastFrom 33 = .ok (.aload_n 0, 1) := by decide +kernel
theorem dX7_leastFrom_34 : decode cX7_leastFrom 34 = .ok (.iload_n 1, 1) := by decide +kernel
theorem dX7_leastFrom_35 : decode cX7_leastFrom 35 = .ok (.iload 5, 2) := by decide +kernel
theorem dX7_leastFrom_37 : decode cX7_leastFrom 37 = .ok (.invokevirtual 72, 3) := by decide +kernel
theorem dX7_leastFrom_40 : decode cX7_leastFrom 40 = .ok (.istore 6, 2) := by decide +kernel
theorem dX7_leastFrom_42 : decode cX7_leastFrom 42 = .ok (.iload 6, 2) := by decide +kernel
theorem dX7_leastFrom_44 : decode cX7_leastFrom 44 = .ok (.aload_n 0, 1) := by decide +kernel
theorem dX7_leastFrom_45 : decode cX7_leastFrom 45 = .ok (.getfield 22, 3) := by decide +kernel
theorem dX7_leastFrom_48 : decode cX7_leastFrom 48 = .ok (.iload_n 2, 1) := by decide +kernel
theorem dX7_leastFrom_49 : decode cX7_leastFrom 49 = .ok (.bipush 61, 2) := by decide +kernel
theorem dX7_leastFrom_51 : decode cX7_leastFrom 51 = .ok (.imul, 1) := by decide +kernel
theorem dX7_leastFrom_52 : decode cX7_leastFrom 52 = .ok (.iload 5, 2) := by decide +kernel
theorem dX7_leastFrom_54 : decode cX7_leastFrom 54 = .ok (.iadd, 1) := by decide +kernel
theorem dX7_leastFrom_55 : decode cX7_leastFrom 55 = .ok (.iaload, 1) := by decide +kernel
theorem dX7_leastFrom_56 : decode cX7_leastFrom 56 = .ok (.iadd, 1) := by decide +kernel
theorem dX7_leastFrom_57 : decode cX7_leastFrom 57 = .ok (.istore 7, 2) := by decide +kernel
theorem dX7_leastFrom_59 : decode cX7_leastFrom 59 = .ok (.iload 7, 2) := by decide +kernel
theorem dX7_leastFrom_61 : decode cX7_leastFrom 61 = .ok (.iload 4, 2) := by decide +kernel
theorem dX7_leastFrom_63 : decode cX7_leastFrom 63 = .ok (.if_icmp .ge 10, 3) := by decide +kernel
theorem dX7_leastFrom_66 : decode cX7_leastFrom 66 = .ok (.iload 7, 2) := by decide +kernel
theorem dX7_leastFrom_68 : decode cX7_leastFrom 68 = .ok (.istore 4, 2) := by decide +kernel
theorem dX7_leastFrom_70 : decode cX7_leastFrom 70 = .ok (.iload 5, 2) := by decide +kernel
theorem dX7_leastFrom_72 : decode cX7_leastFrom 72 = .ok (.istore_n 3, 1) := by decide +kernel
theorem dX7_leastFrom_73 : decode cX7_leastFrom 73 = .ok (.iinc 5 1, 3) := by decide +kernel
theorem dX7_leastFrom_76 : decode cX7_leastFrom 76 = .ok (.goto (-64), 3) := by decide +kernel
theorem dX7_leastFrom_79 : decode cX7_leastFrom 79 = .ok (.iload_n 3, 1) := by decide +kernel
theorem dX7_leastFrom_80 : decode cX7_leastFrom 80 = .ok (.ireturn, 1) := by decide +kernel
theorem dX7_upTo_0 : decode cX7_upTo 0 = .ok (.iload_n 1, 1) := by decide +kernel
theorem dX7_upTo_1 : decode cX7_upTo 1 = .ok (.aload_n 0, 1) := by decide +kernel
theorem dX7_upTo_2 : decode cX7_upTo 2 = .ok (.getfield 15, 3) := by decide +kernel
theorem dX7_upTo_5 : decode cX7_upTo 5 = .ok (.iload_n 1, 1) := by decide +kernel
theorem dX7_upTo_6 : decode cX7_upTo 6 = .ok (.iaload, 1) := by decide +kernel
theorem dX7_upTo_7 : decode cX7_upTo 7 = .ok (.imul, 1) := by decide +kernel
theorem dX7_upTo_8 : decode cX7_upTo 8 = .ok (.aload_n 0, 1) := by decide +kernel
theorem dX7_upTo_9 : decode cX7_upTo 9 = .ok (.getfield 19, 3) := by decide +kernel
theorem dX7_upTo_12 : decode cX7_upTo 12 = .ok (.iload_n 1, 1) := by decide +kernel
theorem dX7_upTo_13 : decode cX7_upTo 13 = .ok (.iaload, 1) := by decide +kernel
theorem dX7_upTo_14 : decode cX7_upTo 14 = .ok (.isub, 1) := by decide +kernel
theorem dX7_upTo_15 : decode cX7_upTo 15 = .ok (.ireturn, 1) := by decide +kernel
theorem dX7_beyond_0 : decode cX7_beyond 0 = .ok (.aload_n 0, 1) := by decide +kernel
theorem dX7_beyond_1 : decode cX7_beyond 1 = .ok (.getfield 19, 3) := by decide +kernel
theorem dX7_beyond_4 : decode cX7_beyond 4 = .ok (.bipush 60, 2) := by decide +kernel
theorem dX7_beyond_6 : decode cX7_beyond 6 = .ok (.iaload, 1) := by decide +kernel
theorem dX7_beyond_7 : decode cX7_beyond 7 = .ok (.aload_n 0, 1) := by decide +kernel
theorem dX7_beyond_8 : decode cX7_beyond 8 = .ok (.getfield 19, 3) := by decide +kernel
theorem dX7_beyond_11 : decode cX7_beyond 11 = .ok (.iload_n 1, 1) := by decide +kernel
theorem dX7_beyond_12 : decode cX7_beyond 12 = .ok (.iaload, 1) := by decide +kernel
theorem dX7_beyond_13 : decode cX7_beyond 13 = .ok (.isub, 1) := by decide +kernel
theorem dX7_beyond_14 : decode cX7_beyond 14 = .ok (.iload_n 1, 1) := by decide +kernel
theorem dX7_beyond_15 : decode cX7_beyond 15 = .ok (.aload_n 0, 1) := by decide +kernel
theorem dX7_beyond_16 : decode cX7_beyond 16 = .ok (.getfield 15, 3) := by decide +kernel
theorem dX7_beyond_19 : decode cX7_beyond 19 = .ok (.bipush 60, 2) := by decide +kernel
theorem dX7_beyond_21 : decode cX7_beyond 21 = .ok (.iaload, 1) := by decide +kernel
theorem dX7_beyond_22 : decode cX7_beyond 22 = .ok (.aload_n 0, 1) := by decide +kernel
theorem dX7_beyond_23 : decode cX7_beyond 23 = .ok (.getfield 15, 3) := by decide +kernel
theorem dX7_beyond_26 : decode cX7_beyond 26 = .ok (.iload_n 1, 1) := by decide +kernel
theorem dX7_beyond_27 : decode cX7_beyond 27 = .ok (.iaload, 1) := by decide +kernel
theorem dX7_beyond_28 : decode cX7_beyond 28 = .ok (.isub, 1) := by decide +kernel
theorem dX7_beyond_29 : decode cX7_beyond 29 = .ok (.imul, 1) := by decide +kernel
theorem dX7_beyond_30 : decode cX7_beyond 30 = .ok (.isub, 1) := by decide +kernel
theorem dX7_beyond_31 : decode cX7_beyond 31 = .ok (.ireturn, 1) := by decide +kernel
theorem dX7_between_0 : decode cX7_between 0 = .ok (.iload_n 1, 1) := by decide +kernel
theorem dX7_between_1 : decode cX7_between 1 = .ok (.iload_n 2, 1) := by decide +kernel
theorem dX7_between_2 : decode cX7_between 2 = .ok (.iadd, 1) := by decide +kernel
theorem dX7_between_3 : decode cX7_between 3 = .ok (.iconst 2, 1) := by decide +kernel
theorem dX7_between_4 : decode cX7_between 4 = .ok (.idiv, 1) := by decide +kernel
theorem dX7_between_5 : decode cX7_between 5 = .ok (.istore_n 3, 1) := by decide +kernel
theorem dX7_between_6 : decode cX7_between 6 = .ok (.aload_n 0, 1) := by decide +kernel
theorem dX7_between_7 : decode cX7_between 7 = .ok (.getfield 19, 3) := by decide +kernel
theorem dX7_between_10 : decode cX7_between 10 = .ok (.iload_n 3, 1) := by decide +kernel
theorem dX7_between_11 : decode cX7_between 11 = .ok (.iaload, 1) := by decide +kernel
theorem dX7_between_12 : decode cX7_between 12 = .ok (.aload_n 0, 1) := by decide +kernel
theorem dX7_between_13 : decode cX7_between 13 = .ok (.getfield 19, 3) := by decide +kernel
theorem dX7_between_16 : decode cX7_between 16 = .ok (.iload_n 1, 1) := by decide +kernel
theorem dX7_between_17 : decode cX7_between 17 = .ok (.iaload, 1) := by decide +kernel
theorem dX7_between_18 : decode cX7_between 18 = .ok (.isub, 1) := by decide +kernel
theorem dX7_between_19 : decode cX7_between 19 = .ok (.iload_n 1, 1) := by decide +kernel
theorem dX7_between_20 : decode cX7_between 20 = .ok (.aload_n 0, 1) := by decide +kernel
theorem dX7_between_21 : decode cX7_between 21 = .ok (.getfield 15, 3) := by decide +kernel
theorem dX7_between_24 : decode cX7_between 24 = .ok (.iload_n 3, 1) := by decide +kernel
theorem dX7_between_25 : decode cX7_between 25 = .ok (.iaload, 1) := by decide +kernel
theorem dX7_between_26 : decode cX7_between 26 = .ok (.aload_n 0, 1) := by decide +kernel
theorem dX7_between_27 : decode cX7_between 27 = .ok (.getfield 15, 3) := by decide +kernel
theorem dX7_between_30 : decode cX7_between 30 = .ok (.iload_n 1, 1) := by decide +kernel
theorem dX7_between_31 : decode cX7_between 31 = .ok (.iaload, 1) := by decide +kernel
theorem dX7_between_32 : decode cX7_between 32 = .ok (.isub, 1) := by decide +kernel
theorem dX7_between_33 : decode cX7_between 33 = .ok (.imul, 1) := by decide +kernel
theorem dX7_between_34 : decode cX7_between 34 = .ok (.isub, 1) := by decide +kernel
theorem dX7_between_35 : decode cX7_between 35 = .ok (.istore 4, 2) := by decide +kernel
theorem dX7_between_37 : decode cX7_between 37 = .ok (.iload_n 2, 1) := by decide +kernel
theorem dX7_between_38 : decode cX7_between 38 = .ok (.aload_n 0, 1) := by decide +kernel
theorem dX7_between_39 : decode cX7_between 39 = .ok (.getfield 15, 3) := by decide +kernel
theorem dX7_between_42 : decode cX7_between 42 = .ok (.iload_n 2, 1) := by decide +kernel
theorem dX7_between_43 : decode cX7_between 43 = .ok (.iaload, 1) := by decide +kernel
theorem dX7_between_44 : decode cX7_between 44 = .ok (.aload_n 0, 1) := by decide +kernel
theorem dX7_between_45 : decode cX7_between 45 = .ok (.getfield 15, 3) := by decide +kernel
theorem dX7_between_48 : decode cX7_between 48 = .ok (.iload_n 3, 1) := by decide +kernel
theorem dX7_between_49 : decode cX7_between 49 = .ok (.iaload, 1) := by decide +kernel
theorem dX7_between_50 : decode cX7_between 50 = .ok (.isub, 1) := by decide +kernel
theorem dX7_between_51 : decode cX7_between 51 = .ok (.imul, 1) := by decide +kernel
theorem dX7_between_52 : decode cX7_between 52 = .ok (.aload_n 0, 1) := by decide +kernel
theorem dX7_between_53 : decode cX7_between 53 = .ok (.getfield 19, 3) := by decide +kernel
theorem dX7_between_56 : decode cX7_between 56 = .ok (.iload_n 2, 1) := by decide +kernel
theorem dX7_between_57 : decode cX7_between 57 = .ok (.iaload, 1) := by decide +kernel
theorem dX7_between_58 : decode cX7_between 58 = .ok (.aload_n 0, 1) := by decide +kernel
theorem dX7_between_59 : decode cX7_between 59 = .ok (.getfield 19, 3) := by decide +kernel
theorem dX7_between_62 : decode cX7_between 62 = .ok (.iload_n 3, 1) := by decide +kernel
theorem dX7_between_63 : decode cX7_between 63 = .ok (.iaload, 1) := by decide +kernel
theorem dX7_between_64 : decode cX7_between 64 = .ok (.isub, 1) := by decide +kernel
theorem dX7_between_65 : decode cX7_between 65 = .ok (.isub, 1) := by decide +kernel
theorem dX7_between_66 : decode cX7_between 66 = .ok (.istore 5, 2) := by decide +kernel
theorem dX7_between_68 : decode cX7_between 68 = .ok (.iload 4, 2) := by decide +kernel
theorem dX7_between_70 : decode cX7_between 70 = .ok (.iload 5, 2) := by decide +kernel
theorem dX7_between_72 : decode cX7_between 72 = .ok (.iadd, 1) := by decide +kernel
theorem dX7_between_73 : decode cX7_between 73 = .ok (.ireturn, 1) := by decide +kernel
theorem dX8_init_0 : decode cX8_init 0 = .ok (.aload_n 0, 1) := by decide +kernel
theorem dX8_init_1 : decode cX8_init 1 = .ok (.invokespecial 3, 3) := by decide +kernel
theorem dX8_init_4 : decode cX8_init 4 = .ok (.aload_n 0, 1) := by decide +kernel
theorem dX8_init_5 : decode cX8_init 5 = .ok (.aload_n 1, 1) := by decide +kernel
theorem dX8_init_6 : decode cX8_init 6 = .ok (.putfield 9, 3) := by decide +kernel
theorem dX8_init_9 : decode cX8_init 9 = .ok (.aload_n 0, 1) := by decide +kernel
theorem dX8_init_10 : decode cX8_init 10 = .ok (.bipush 13, 2) := by decide +kernel
theorem dX8_init_12 : decode cX8_init 12 = .ok (.newarray .long, 2) := by decide +kernel
theorem dX8_init_14 : decode cX8_init 14 = .ok (.putfield 15, 3) := by decide +kernel
theorem dX8_init_17 : decode cX8_init 17 = .ok (.aload_n 0, 1) := by decide +kernel
theorem dX8_init_18 : decode cX8_init 18 = .ok (.iconst 0, 1) := by decide +kernel
theorem dX8_init_19 : decode cX8_init 19 = .ok (.putfield 19, 3) := by decide +kernel
theorem dX8_init_22 : decode cX8_init 22 = .ok (.aload_n 0, 1) := by decide +kernel
theorem dX8_init_23 : decode cX8_init 23 = .ok (.iconst 0, 1) := by decide +kernel
theorem dX8_init_24 : decode cX8_init 24 = .ok (.putfield 23, 3) := by decide +kernel
theorem dX8_init_27 : decode cX8_init 27 = .ok (.return_, 1) := by decide +kernel
theorem dX8_shownSeasons_0 : decode cX8_shownSeasons 0 = .ok (.iconst 0, 1) := by decide +kernel
theorem dX8_shownSeasons_1 : decode cX8_shownSeasons 1 = .ok (.istore_n 2, 1) := by decide +kernel
theorem dX8_shownSeasons_2 : decode cX8_shownSeasons 2 = .ok (.iconst 0, 1) := by decide +kernel
theorem dX8_shownSeasons_3 : decode cX8_shownSeasons 3 = .ok (.istore_n 3, 1) := by decide +kernel
theorem dX8_shownSeasons_4 : decode cX8_shownSeasons 4 = .ok (.iload_n 3, 1) := by decide +kernel
theorem dX8_shownSeasons_5 : decode cX8_shownSeasons 5 = .ok (.aload_n 0, 1) := by decide +kernel
theorem dX8_shownSeasons_6 : decode cX8_shownSeasons 6 = .ok (.getfield 9, 3) := by decide +kernel
theorem dX8_shownSeasons_9 : decode cX8_shownSeasons 9 = .ok (.getfield 26, 3) := by decide +kernel
theorem dX8_shownSeasons_12 : decode cX8_shownSeasons 12 = .ok (.if_icmp .ge 21, 3) := by decide +kernel
theorem dX8_shownSeasons_15 : decode cX8_shownSeasons 15 = .ok (.aload_n 0, 1) := by decide +kernel
theorem dX8_shownSeasons_16 : decode cX8_shownSeasons 16 = .ok (.iload_n 1, 1) := by decide +kernel
theorem dX8_shownSeasons_17 : decode cX8_shownSeasons 17 = .ok (.iload_n 3, 1) := by decide +kernel
theorem dX8_shownSeasons_18 : decode cX8_shownSeasons 18 = .ok (.invokevirtual 31, 3) := by decide +kernel
theorem dX8_shownSeasons_21 : decode cX8_shownSeasons 21 = .ok (.ifCond .eq 6, 3) := by decide +kernel
theorem dX8_shownSeasons_24 : decode cX8_shownSeasons 24 = .ok (.iinc 2 1, 3) := by decide +kernel
theorem dX8_shownSeasons_27 : decode cX8_shownSeasons 27 = .ok (.iinc 3 1, 3) := by decide +kernel
theorem dX8_shownSeasons_30 : decode cX8_shownSeasons 30 = .ok (.goto (-26), 3) := by decide +kernel
theorem dX8_shownSeasons_33 : decode cX8_shownSeasons 33 = .ok (.iload_n 2, 1) := by decide +kernel
theorem dX8_shownSeasons_34 : decode cX8_shownSeasons 34 = .ok (.ireturn, 1) := by decide +kernel
theorem dX8_followedSeasons_0 : decode cX8_followedSeasons 0 = .ok (.iconst 0, 1) := by decide +kernel
theorem dX8_followedSeasons_1 : decode cX8_followedSeasons 1 = .ok (.istore_n 2, 1) := by decide +kernel
theorem dX8_followedSeasons_2 : decode cX8_followedSeasons 2 = .ok (.iconst 0, 1) := by decide +kernel
theorem dX8_followedSeasons_3 : decode cX8_followedSeasons 3 = .ok (.istore_n 3, 1) := by decide +kernel
theorem dX8_followedSeasons_4 : decode cX8_followedSeasons 4 = .ok (.iload_n 3, 1) := by decide +kernel
theorem dX8_followedSeasons_5 : decode cX8_followedSeasons 5 = .ok (.aload_n 0, 1) := by decide +kernel
theorem dX8_followedSeasons_6 : decode cX8_followedSeasons 6 = .ok (.getfield 9, 3) := by decide +kernel
theorem dX8_followedSeasons_9 : decode cX8_followedSeasons 9 = .ok (.getfield 26, 3) := by decide +kernel
theorem dX8_followedSeasons_12 : decode cX8_followedSeasons 12 = .ok (.if_icmp .ge 21, 3) := by decide +kernel
theorem dX8_followedSeasons_15 : decode cX8_followedSeasons 15 = .ok (.aload_n 0, 1) := by decide +kernel
theorem dX8_followedSeasons_16 : decode cX8_followedSeasons 16 = .ok (.iload_n 1, 1) := by decide +kernel
theorem dX8_followedSeasons_17 : decode cX8_followedSeasons 17 = .ok (.iload_n 3, 1) := by decide +kernel
theorem dX8_followedSeasons_18 : decode cX8_followedSeasons 18 = .ok (.invokevirtual 35, 3) := by decide +kernel
theorem dX8_followedSeasons_21 : decode cX8_followedSeasons 21 = .ok (.ifCond .eq 6, 3) := by decide +kernel
theorem dX8_followedSeasons_24 : decode cX8_followedSeasons 24 = .ok (.iinc 2 1, 3) := by decide +kernel
theorem dX8_followedSeasons_27 : decode cX8_followedSeasons 27 = .ok (.iinc 3 1, 3) := by decide +kernel
theorem dX8_followedSeasons_30 : decode cX8_followedSeasons 30 = .ok (.goto (-26), 3) := by decide +kernel
theorem dX8_followedSeasons_33 : decode cX8_followedSeasons 33 = .ok (.iload_n 2, 1) := by decide +kernel
theorem dX8_followedSeasons_34 : decode cX8_followedSeasons 34 = .ok (.ireturn, 1) := by decide +kernel
theorem dX8_waysOf_0 : decode cX8_waysOf 0 = .ok (.aload_n 0, 1) := by decide +kernel
theorem dX8_waysOf_1 : decode cX8_waysOf 1 = .ok (.getfield 15, 3) := by decide +kernel
theorem dX8_waysOf_4 : decode cX8_waysOf 4 = .ok (.lconst 0, 1) := by decide +kernel
theorem dX8_waysOf_5 : decode cX8_waysOf 5 = .ok (.invokestatic 38, 3) := by decide +kernel
theorem dX8_waysOf_8 : decode cX8_waysOf 8 = .ok (.aload_n 0, 1) := by decide +kernel
theorem dX8_waysOf_9 : decode cX8_waysOf 9 = .ok (.getfield 15, 3) := by decide +kernel
theorem dX8_waysOf_12 : decode cX8_waysOf 12 = .ok (.iconst 0, 1) := by decide +kernel
theorem dX8_waysOf_13 : decode cX8_waysOf 13 = .ok (.lconst 1, 1) := by decide +kernel
theorem dX8_waysOf_14 : decode cX8_waysOf 14 = .ok (.lastore, 1) := by decide +kernel
theorem dX8_waysOf_15 : decode cX8_waysOf 15 = .ok (.iconst 0, 1) := by decide +kernel
theorem dX8_waysOf_16 : decode cX8_waysOf 16 = .ok (.istore_n 3, 1) := by decide +kernel
theorem dX8_waysOf_17 : decode cX8_waysOf 17 = .ok (.iconst 0, 1) := by decide +kernel
theorem dX8_waysOf_18 : decode cX8_waysOf 18 = .ok (.istore 4, 2) := by decide +kernel
theorem dX8_waysOf_20 : decode cX8_waysOf 20 = .ok (.aload_n 0, 1) := by decide +kernel
theorem dX8_waysOf_21 : decode cX8_waysOf 21 = .ok (.getfield 9, 3) := by decide +kernel
theorem dX8_waysOf_24 : decode cX8_waysOf 24 = .ok (.getfield 26, 3) := by decide +kernel
theorem dX8_waysOf_27 : decode cX8_waysOf 27 = .ok (.iconst 1, 1) := by decide +kernel
theorem dX8_waysOf_28 : decode cX8_waysOf 28 = .ok (.isub, 1) := by decide +kernel
theorem dX8_waysOf_29 : decode cX8_waysOf 29 = .ok (.istore 5, 2) := by decide +kernel
theorem dX8_waysOf_31 : decode cX8_waysOf 31 = .ok (.iload 5, 2) := by decide +kernel
theorem dX8_waysOf_33 : decode cX8_waysOf 33 = .ok (.ifCond .lt 54, 3) := by decide +kernel
theorem dX8_waysOf_36 : decode cX8_waysOf 36 = .ok (.iload_n 3, 1) := by decide +kernel
theorem dX8_waysOf_37 : decode cX8_waysOf 37 = .ok (.bipush 12, 2) := by decide +kernel
theorem dX8_waysOf_39 : decode cX8_waysOf 39 = .ok (.if_icmp .ge 48, 3) := by decide +kernel
theorem dX8_waysOf_42 : decode cX8_waysOf 42 = .ok (.aload_n 0, 1) := by decide +kernel
theorem dX8_waysOf_43 : decode cX8_waysOf 43 = .ok (.iload_n 1, 1) := by decide +kernel
theorem dX8_waysOf_44 : decode cX8_waysOf 44 = .ok (.iload 5, 2) := by decide +kernel
theorem dX8_waysOf_46 : decode cX8_waysOf 46 = .ok (.invokevirtual 31, 3) := by decide +kernel
theorem dX8_waysOf_49 : decode cX8_waysOf 49 = .ok (.ifCond .eq 32, 3) := by decide +kernel
theorem dX8_waysOf_52 : decode cX8_waysOf 52 = .ok (.iinc 3 1, 3) := by decide +kernel
theorem dX8_waysOf_55 : decode cX8_waysOf 55 = .ok (.iload 4, 2) := by decide +kernel
theorem dX8_waysOf_57 : decode cX8_waysOf 57 = .ok (.aload_n 0, 1) := by decide +kernel
theorem dX8_waysOf_58 : decode cX8_waysOf 58 = .ok (.iload_n 1, 1) := by decide +kernel
theorem dX8_waysOf_59 : decode cX8_waysOf 59 = .ok (.iload 5, 2) := by decide +kernel
theorem dX8_waysOf_61 : decode cX8_waysOf 61 = .ok (.invokevirtual 35, 3) := by decide +kernel
theorem dX8_waysOf_64 : decode cX8_waysOf 64 = .ok (.ifCond .eq 7, 3) := by decide +kernel
theorem dX8_waysOf_67 : decode cX8_waysOf 67 = .ok (.iconst 1, 1) := by decide +kernel
theorem dX8_waysOf_68 : decode cX8_waysOf 68 = .ok (.goto 4, 3) := by decide +kernel
theorem dX8_waysOf_71 : decode cX8_waysOf 71 = .ok (.iconst 0, 1) := by decide +kernel
theorem dX8_waysOf_72 : decode cX8_waysOf 72 = .ok (.iadd, 1) := by decide +kernel
theorem dX8_waysOf_73 : decode cX8_waysOf 73 = .ok (.istore 4, 2) := by decide +kernel
theorem dX8_waysOf_75 : decode cX8_waysOf 75 = .ok (.aload_n 0, 1) := by decide +kernel
theorem dX8_waysOf_76 : decode cX8_waysOf 76 = .ok (.iload 5, 2) := by decide +kernel
theorem dX8_waysOf_78 : decode cX8_waysOf 78 = .ok (.invokevirtual 44, 3) := by decide +kernel
theorem dX8_waysOf_81 : decode cX8_waysOf 81 = .ok (.iinc 5 (-1), 3) := by decide +kernel
theorem dX8_waysOf_84 : decode cX8_waysOf 84 = .ok (.goto (-53), 3) := by decide +kernel
theorem dX8_waysOf_87 : decode cX8_waysOf 87 = .ok (.lconst 0, 1) := by decide +kernel
theorem dX8_waysOf_88 : decode cX8_waysOf 88 = .ok (.lstore 5, 2) := by decide +kernel
theorem dX8_waysOf_90 : decode cX8_waysOf 90 = .ok (.iload_n 2, 1) := by decide +kernel
theorem dX8_waysOf_91 : decode cX8_waysOf 91 = .ok (.ifCond .eq 7, 3) := by decide +kernel
theorem dX8_waysOf_94 : decode cX8_waysOf 94 = .ok (.iconst 0, 1) := by decide +kernel
theorem dX8_waysOf_95 : decode cX8_waysOf 95 = .ok (.goto 5, 3) := by decide +kernel
theorem dX8_waysOf_98 : decode cX8_waysOf 98 = .ok (.iload 4, 2) := by decide +kernel
theorem dX8_waysOf_100 : decode cX8_waysOf 100 = .ok (.istore 7, 2) := by decide +kernel
theorem dX8_waysOf_102 : decode cX8_waysOf 102 = .ok (.iload 7, 2) := by decide +kernel
theorem dX8_waysOf_104 : decode cX8_waysOf 104 = .ok (.bipush 12, 2) := by decide +kernel
theorem dX8_waysOf_106 : decode cX8_waysOf 106 = .ok (.if_icmp .gt 21, 3) := by decide +kernel
theorem dX8_waysOf_109 : decode cX8_waysOf 109 = .ok (.lload 5, 2) := by decide +kernel
theorem dX8_waysOf_111 : decode cX8_waysOf 111 = .ok (.aload_n 0, 1) := by decide +kernel
theorem dX8_waysOf_112 : decode cX8_waysOf 112 = .ok (.getfield 15, 3) := by decide +kernel
theorem dX8_waysOf_115 : decode cX8_waysOf 115 = .ok (.iload 7, 2) := by decide +kernel
theorem dX8_waysOf_117 : decode cX8_waysOf 117 = .ok (.laload, 1) := by decide +kernel
theorem dX8_waysOf_118 : decode cX8_waysOf 118 = .ok (.ladd, 1) := by decide +kernel
theorem dX8_waysOf_119 : decode cX8_waysOf 119 = .ok (.lstore 5, 2) := by decide +kernel
theorem dX8_waysOf_121 : decode cX8_waysOf 121 = .ok (.iinc 7 1, 3) := by decide +kernel
theorem dX8_waysOf_124 : decode cX8_waysOf 124 = .ok (.goto (-22), 3) := by decide +kernel
theorem dX8_waysOf_127 : decode cX8_waysOf 127 = .ok (.lload 5, 2) := by decide +kernel
theorem dX8_waysOf_129 : decode cX8_waysOf 129 = .ok (.lreturn, 1) := by decide +kernel
theorem dX8_chooseIn_0 : decode cX8_chooseIn 0 = .ok (.iconst 0, 1) := by decide +kernel
theorem dX8_chooseIn_1 : decode cX8_chooseIn 1 = .ok (.istore_n 2, 1) := by decide +kernel
theorem dX8_chooseIn_2 : decode cX8_chooseIn 2 = .ok (.iconst 0, 1) := by decide +kernel
theorem dX8_chooseIn_3 : decode cX8_chooseIn 3 = .ok (.istore_n 3, 1) := by decide +kernel
theorem dX8_chooseIn_4 : decode cX8_chooseIn 4 = .ok (.iconst 0, 1) := by decide +kernel
theorem dX8_chooseIn_5 : decode cX8_chooseIn 5 = .ok (.istore 4, 2) := by decide +kernel
theorem dX8_chooseIn_7 : decode cX8_chooseIn 7 = .ok (.iload 4, 2) := by decide +kernel
theorem dX8_chooseIn_9 : decode cX8_chooseIn 9 = .ok (.iconst 4, 1) := by decide +kernel
theorem dX8_chooseIn_10 : decode cX8_chooseIn 10 = .ok (.if_icmp .ge 38, 3) := by decide +kernel
theorem dX8_chooseIn_13 : decode cX8_chooseIn 13 = .ok (.aload_n 0, 1) := by decide +kernel
theorem dX8_chooseIn_14 : decode cX8_chooseIn 14 = .ok (.iload 4, 2) := by decide +kernel
theorem dX8_chooseIn_16 : decode cX8_chooseIn 16 = .ok (.iload_n 1, 1) := by decide +kernel
theorem dX8_chooseIn_17 : decode cX8_chooseIn 17 = .ok (.invokevirtual 35, 3) := by decide +kernel
theorem dX8_chooseIn_20 : decode cX8_chooseIn 20 = .ok (.ifCond .eq 9, 3) := by decide +kernel
theorem dX8_chooseIn_23 : decode cX8_chooseIn 23 = .ok (.iinc 2 1, 3) := by decide +kernel
theorem dX8_chooseIn_26 : decode cX8_chooseIn 26 = .ok (.goto 16, 3) := by decide +kernel
theorem dX8_chooseIn_29 : decode cX8_chooseIn 29 = .ok (.aload_n 0, 1) := by decide +kernel
theorem dX8_chooseIn_30 : decode cX8_chooseIn 30 = .ok (.iload 4, 2) := by decide +kernel
theorem dX8_chooseIn_32 : decode cX8_chooseIn 32 = .ok (.iload_n 1, 1) := by decide +kernel
theorem dX8_chooseIn_33 : decode cX8_chooseIn 33 = .ok (.invokevirtual 31, 3) := by decide +kernel
theorem dX8_chooseIn_36 : decode cX8_chooseIn 36 = .ok (.ifCond .eq 6, 3) := by decide +kernel
theorem dX8_chooseIn_39 : decode cX8_chooseIn 39 = .ok (.iinc 3 1, 3) := by decide +kernel
theorem dX8_chooseIn_42 : decode cX8_chooseIn 42 = .ok (.iinc 4 1, 3) := by decide +kernel
theorem dX8_chooseIn_45 : decode cX8_chooseIn 45 = .ok (.goto (-38), 3) := by decide +kernel
theorem dX8_chooseIn_48 : decode cX8_chooseIn 48 = .ok (.bipush 12, 2) := by decide +kernel
theorem dX8_chooseIn_50 : decode cX8_chooseIn 50 = .ok (.istore 4, 2) := by decide +kernel
theorem dX8_chooseIn_52 : decode cX8_chooseIn 52 = .ok (.iload 4, 2) := by decide +kernel
theorem dX8_chooseIn_54 : decode cX8_chooseIn 54 = .ok (.ifCond .le 39, 3) := by decide +kernel
theorem dX8_chooseIn_57 : decode cX8_chooseIn 57 = .ok (.aload_n 0, 1) := by decide +kernel
theorem dX8_chooseIn_58 : decode cX8_chooseIn 58 = .ok (.getfield 15, 3) := by decide +kernel
theorem dX8_chooseIn_61 : decode cX8_chooseIn 61 = .ok (.iload 4, 2) := by decide +kernel
theorem dX8_chooseIn_63 : decode cX8_chooseIn 63 = .ok (.aload_n 0, 1) := by decide +kernel
theorem dX8_chooseIn_64 : decode cX8_chooseIn 64 = .ok (.getfield 15, 3) := by decide +kernel
theorem dX8_chooseIn_67 : decode cX8_chooseIn 67 = .ok (.iload 4, 2) := by decide +kernel
theorem dX8_chooseIn_69 : decode cX8_chooseIn 69 = .ok (.laload, 1) := by decide +kernel
theorem dX8_chooseIn_70 : decode cX8_chooseIn 70 = .ok (.iload_n 3, 1) := by decide +kernel
theorem dX8_chooseIn_71 : decode cX8_chooseIn 71 = .ok (.i2l, 1) := by decide +kernel
theorem dX8_chooseIn_72 : decode cX8_chooseIn 72 = .ok (.lmul, 1) := by decide +kernel
theorem dX8_chooseIn_73 : decode cX8_chooseIn 73 = .ok (.aload_n 0, 1) := by decide +kernel
theorem dX8_chooseIn_74 : decode cX8_chooseIn 74 = .ok (.getfield 15, 3) := by decide +kernel
theorem dX8_chooseIn_77 : decode cX8_chooseIn 77 = .ok (.iload 4, 2) := by decide +kernel
theorem dX8_chooseIn_79 : decode cX8_chooseIn 79 = .ok (.iconst 1, 1) := by decide +kernel
theorem dX8_chooseIn_80 : decode cX8_chooseIn 80 = .ok (.isub, 1) := by decide +kernel
theorem dX8_chooseIn_81 : decode cX8_chooseIn 81 = .ok (.laload, 1) := by decide +kernel
theorem dX8_chooseIn_82 : decode cX8_chooseIn 82 = .ok (.iload_n 2, 1) := by decide +kernel
theorem dX8_chooseIn_83 : decode cX8_chooseIn 83 = .ok (.i2l, 1) := by decide +kernel
theorem dX8_chooseIn_84 : decode cX8_chooseIn 84 = .ok (.lmul, 1) := by decide +kernel
theorem dX8_chooseIn_85 : decode cX8_chooseIn 85 = .ok (.ladd, 1) := by decide +kernel
theorem dX8_chooseIn_86 : decode cX8_chooseIn 86 = .ok (.lastore, 1) := by decide +kernel
theorem dX8_chooseIn_87 : decode cX8_chooseIn 87 = .ok (.iinc 4 (-1), 3) := by decide +kernel
theorem dX8_chooseIn_90 : decode cX8_chooseIn 90 = .ok (.goto (-38), 3) := by decide +kernel
theorem dX8_chooseIn_93 : decode cX8_chooseIn 93 = .ok (.aload_n 0, 1) := by decide +kernel
theorem dX8_chooseIn_94 : decode cX8_chooseIn 94 = .ok (.getfield 15, 3) := by decide +kernel
theorem dX8_chooseIn_97 : decode cX8_chooseIn 97 = .ok (.iconst 0, 1) := by decide +kernel
theorem dX8_chooseIn_98 : decode cX8_chooseIn 98 = .ok (.dup2, 1) := by decide +kernel
theorem dX8_chooseIn_99 : decode cX8_chooseIn 99 = .ok (.laload, 1) := by decide +kernel
theorem dX8_chooseIn_100 : decode cX8_chooseIn 100 = .ok (.iload_n 3, 1) := by decide +kernel
theorem dX8_chooseIn_101 : decode cX8_chooseIn 101 = .ok (.i2l, 1) := by decide +kernel
theorem dX8_chooseIn_102 : decode cX8_chooseIn 102 = .ok (.lmul, 1) := by decide +kernel
theorem dX8_chooseIn_103 : decode cX8_chooseIn 103 = .ok (.lastore, 1) := by decide +kernel
theorem dX8_chooseIn_104 : decode cX8_chooseIn 104 = .ok (.return_, 1) := by decide +kernel
theorem dX8_isShown_0 : decode cX8_isShown 0 = .ok (.aload_n 0, 1) := by decide +kernel
theorem dX8_isShown_1 : decode cX8_isShown 1 = .ok (.getfield 9, 3) := by decide +kernel
theorem dX8_isShown_4 : decode cX8_isShown 4 = .ok (.getfield 48, 3) := by decide +kernel
theorem dX8_isShown_7 : decode cX8_isShown 7 = .ok (.iload_n 1, 1) := by decide +kernel
theorem dX8_isShown_8 : decode cX8_isShown 8 = .ok (.iload_n 2, 1) := by decide +kernel
theorem dX8_isShown_9 : decode cX8_isShown 9 = .ok (.invokevirtual 52, 3) := by decide +kernel
theorem dX8_isShown_12 : decode cX8_isShown 12 = .ok (.iconst (-1), 1) := by decide +kernel
theorem dX8_isShown_13 : decode cX8_isShown 13 = .ok (.if_icmp .eq 7, 3) := by decide +kernel
theorem dX8_isShown_16 : decode cX8_isShown 16 = .ok (.iconst 1, 1) := by decide +kernel
theorem dX8_isShown_17 : decode cX8_isShown 17 = .ok (.goto 4, 3) := by decide +kernel
theorem dX8_isShown_20 : decode cX8_isShown 20 = .ok (.iconst 0, 1) := by decide +kernel
theorem dX8_isShown_21 : decode cX8_isShown 21 = .ok (.ireturn, 1) := by decide +kernel
theorem dX8_isFollowed_0 : decode cX8_isFollowed 0 = .ok (.bipush 100, 2) := by decide +kernel
theorem dX8_isFollowed_2 : decode cX8_isFollowed 2 = .ok (.aload_n 0, 1) := by decide +kernel
theorem dX8_isFollowed_3 : decode cX8_isFollowed 3 = .ok (.getfield 9, 3) := by decide +kernel
theorem dX8_isFollowed_6 : decode cX8_isFollowed 6 = .ok (.getfield 48, 3) := by decide +kernel
theorem dX8_isFollowed_9 : decode cX8_isFollowed 9 = .ok (.iload_n 1, 1) := by decide +kernel
theorem dX8_isFollowed_10 : decode cX8_isFollowed 10 = .ok (.iload_n 2, 1) := by decide +kernel
theorem dX8_isFollowed_11 : decode cX8_isFollowed 11 = .ok (.invokevirtual 52, 3) := by decide +kernel
theorem dX8_isFollowed_14 : decode cX8_isFollowed 14 = .ok (.imul, 1) := by decide +kernel
theorem dX8_isFollowed_15 : decode cX8_isFollowed 15 = .ok (.istore_n 3, 1) := by decide +kernel
theorem dX8_isFollowed_16 : decode cX8_isFollowed 16 = .ok (.aload_n 0, 1) := by decide +kernel
theorem dX8_isFollowed_17 : decode cX8_isFollowed 17 = .ok (.iload_n 1, 1) := by decide +kernel
theorem dX8_isFollowed_18 : decode cX8_isFollowed 18 = .ok (.iload_n 2, 1) := by decide +kernel
theorem dX8_isFollowed_19 : decode cX8_isFollowed 19 = .ok (.invokevirtual 31, 3) := by decide +kernel
theorem dX8_isFollowed_22 : decode cX8_isFollowed 22 = .ok (.ifCond .eq 38, 3) := by decide +kernel
theorem dX8_isFollowed_25 : decode cX8_isFollowed 25 = .ok (.aload_n 0, 1) := by decide +kernel
theorem dX8_isFollowed_26 : decode cX8_isFollowed 26 = .ok (.getfield 9, 3) := by decide +kernel
theorem dX8_isFollowed_29 : decode cX8_isFollowed 29 = .ok (.iload_n 2, 1) := by decide +kernel
theorem dX8_isFollowed_30 : decode cX8_isFollowed 30 = .ok (.iconst 1, 1) := by decide +kernel
theorem dX8_isFollowed_31 : decode cX8_isFollowed 31 = .ok (.iadd, 1) := by decide +kernel
theorem dX8_isFollowed_32 : decode cX8_isFollowed 32 = .ok (.invokevirtual 58, 3) := by decide +kernel
theorem dX8_isFollowed_35 : decode cX8_isFollowed 35 = .ok (.iload_n 3, 1) := by decide +kernel
theorem dX8_isFollowed_36 : decode cX8_isFollowed 36 = .ok (.isub, 1) := by decide +kernel
theorem dX8_isFollowed_37 : decode cX8_isFollowed 37 = .ok (.invokestatic 62, 3) := by decide +kernel
theorem dX8_isFollowed_40 : decode cX8_isFollowed 40 = .ok (.aload_n 0, 1) := by decide +kernel
theorem dX8_isFollowed_41 : decode cX8_isFollowed 41 = .ok (.getfield 9, 3) := by decide +kernel
theorem dX8_isFollowed_44 : decode cX8_isFollowed 44 = .ok (.iload_n 2, 1) := by decide +kernel
theorem dX8_isFollowed_45 : decode cX8_isFollowed 45 = .ok (.invokevirtual 58, 3) := by decide +kernel
theorem dX8_isFollowed_48 : decode cX8_isFollowed 48 = .ok (.iload_n 3, 1) := by decide +kernel
theorem dX8_isFollowed_49 : decode cX8_isFollowed 49 = .ok (.isub, 1) := by decide +kernel
theorem dX8_isFollowed_50 : decode cX8_isFollowed 50 = .ok (.invokestatic 62, 3) := by decide +kernel
theorem dX8_isFollowed_53 : decode cX8_isFollowed 53 = .ok (.if_icmp .ge 7, 3) := by decide +kernel
theorem dX8_isFollowed_56 : decode cX8_isFollowed 56 = .ok (.iconst 1, 1) := by decide +kernel
theorem dX8_isFollowed_57 : decode cX8_isFollowed 57 = .ok (.goto 4, 3) := by decide +kernel
theorem dX8_isFollowed_60 : decode cX8_isFollowed 60 = .ok (.iconst 0, 1) := by decide +kernel
theorem dX8_isFollowed_61 : decode cX8_isFollowed 61 = .ok (.ireturn, 1) := by decide +kernel
theorem dX8_gather_0 : decode cX8_gather 0 = .ok (.aload_n 0, 1) := by decide +kernel
theorem dX8_gather_1 : decode cX8_gather 1 = .ok (.iconst 0, 1) := by decide +kernel
theorem dX8_gather_2 : decode cX8_gather 2 = .ok (.putfield 19, 3) := by decide +kernel
theorem dX8_gather_5 : decode cX8_gather 5 = .ok (.aload_n 0, 1) := by decide +kernel
theorem dX8_gather_6 : decode cX8_gather 6 = .ok (.iconst 0, 1) := by decide +kernel
theorem dX8_gather_7 : decode cX8_gather 7 = .ok (.putfield 23, 3) := by decide +kernel
theorem dX8_gather_10 : decode cX8_gather 10 = .ok (.aload_n 0, 1) := by decide +kernel
theorem dX8_gather_11 : decode cX8_gather 11 = .ok (.getfield 9, 3) := by decide +kernel
theorem dX8_gather_14 : decode cX8_gather 14 = .ok (.getfield 48, 3) := by decide +kernel
theorem dX8_gather_17 : decode cX8_gather 17 = .ok (.getfield 67, 3) := by decide +kernel
theorem dX8_gather_20 : decode cX8_gather 20 = .ok (.astore_n 2, 1) := by decide +kernel
theorem dX8_gather_21 : decode cX8_gather 21 = .ok (.aload_n 0, 1) := by decide +kernel
theorem dX8_gather_22 : decode cX8_gather 22 = .ok (.getfield 9, 3) := by decide +kernel
theorem dX8_gather_25 : decode cX8_gather 25 = .ok (.getfield 26, 3) := by decide +kernel
theorem dX8_gather_28 : decode cX8_gather 28 = .ok (.istore_n 3, 1) := by decide +kernel
theorem dX8_gather_29 : decode cX8_gather 29 = .ok (.iload_n 3, 1) := by decide +kernel
theorem dX8_gather_30 : decode cX8_gather 30 = .ok (.iload_n 1, 1) := by decide +kernel
theorem dX8_gather_31 : decode cX8_gather 31 = .ok (.if_icmp .le 99, 3) := by decide +kernel
theorem dX8_gather_34 : decode cX8_gather 34 = .ok (.aload_n 0, 1) := by decide +kernel
theorem dX8_gather_35 : decode cX8_gather 35 = .ok (.getfield 19, 3) := by decide +kernel
theorem dX8_gather_38 : decode cX8_gather 38 = .ok (.bipush 40, 2) := by decide +kernel
theorem dX8_gather_40 : decode cX8_gather 40 = .ok (.if_icmp .ge 90, 3) := by decide +kernel
theorem dX8_gather_43 : decode cX8_gather 43 = .ok (.aload_n 2, 1) := by decide +kernel
theorem dX8_gather_44 : decode cX8_gather 44 = .ok (.iload_n 3, 1) := by decide +kernel
theorem dX8_gather_45 : decode cX8_gather 45 = .ok (.iload_n 1, 1) := by decide +kernel
theorem dX8_gather_46 : decode cX8_gather 46 = .ok (.isub, 1) := by decide +kernel
theorem dX8_gather_47 : decode cX8_gather 47 = .ok (.iaload, 1) := by decide +kernel
theorem dX8_gather_48 : decode cX8_gather 48 = .ok (.aload_n 2, 1) := by decide +kernel
theorem dX8_gather_49 : decode cX8_gather 49 = .ok (.iload_n 3, 1) := by decide +kernel
theorem dX8_gather_50 : decode cX8_gather 50 = .ok (.iload_n 1, 1) := by decide +kernel
theorem dX8_gather_51 : decode cX8_gather 51 = .ok (.isub, 1) := by decide +kernel
theorem dX8_gather_52 : decode cX8_gather 52 = .ok (.iconst 1, 1) := by decide +kernel
theorem dX8_gather_53 : decode cX8_gather 53 = .ok (.isub, 1) := by decide +kernel
theorem dX8_gather_54 : decode cX8_gather 54 = .ok (.iaload, 1) := by decide +kernel
theorem dX8_gather_55 : decode cX8_gather 55 = .ok (.invokestatic 71, 3) := by decide +kernel
theorem dX8_gather_58 : decode cX8_gather 58 = .ok (.istore 4, 2) := by decide +kernel
theorem dX8_gather_60 : decode cX8_gather 60 = .ok (.aload_n 0, 1) := by decide +kernel
theorem dX8_gather_61 : decode cX8_gather 61 = .ok (.getfield 9, 3) := by decide +kernel
theorem dX8_gather_64 : decode cX8_gather 64 = .ok (.iload_n 3, 1) := by decide +kernel
theorem dX8_gather_65 : decode cX8_gather 65 = .ok (.invokevirtual 58, 3) := by decide +kernel
theorem dX8_gather_68 : decode cX8_gather 68 = .ok (.aload_n 0, 1) := by decide +kernel
theorem dX8_gather_69 : decode cX8_gather 69 = .ok (.getfield 9, 3) := by decide +kernel
theorem dX8_gather_72 : decode cX8_gather 72 = .ok (.iload_n 3, 1) := by decide +kernel
theorem dX8_gather_73 : decode cX8_gather 73 = .ok (.iconst 1, 1) := by decide +kernel
theorem dX8_gather_74 : decode cX8_gather 74 = .ok (.isub, 1) := by decide +kernel
theorem dX8_gather_75 : decode cX8_gather 75 = .ok (.invokevirtual 58, 3) := by decide +kernel
theorem dX8_gather_78 : decode cX8_gather 78 = .ok (.invokestatic 71, 3) := by decide +kernel
theorem dX8_gather_81 : decode cX8_gather 81 = .ok (.istore 5, 2) := by decide +kernel
theorem dX8_gather_83 : decode cX8_gather 83 = .ok (.iload 4, 2) := by decide +kernel
theorem dX8_gather_85 : decode cX8_gather 85 = .ok (.ifCond .eq 39, 3) := by decide +kernel
theorem dX8_gather_88 : decode cX8_gather 88 = .ok (.iload 5, 2) := by decide +kernel
theorem dX8_gather_90 : decode cX8_gather 90 = .ok (.ifCond .eq 34, 3) := by decide +kernel
theorem dX8_gather_93 : decode cX8_gather 93 = .ok (.aload_n 0, 1) := by decide +kernel
theorem dX8_gather_94 : decode cX8_gather 94 = .ok (.dup, 1) := by decide +kernel
theorem dX8_gather_95 : decode cX8_gather 95 = .ok (.getfield 19, 3) := by decide +kernel
theorem dX8_gather_98 : decode cX8_gather 98 = .ok (.iconst 1, 1) := by decide +kernel
theorem dX8_gather_99 : decode cX8_gather 99 = .ok (.iadd, 1) := by decide +kernel
theorem dX8_gather_100 : decode cX8_gather 100 = .ok (.putfield 19, 3) := by decide +kernel
theorem dX8_gather_103 : decode cX8_gather 103 = .ok (.aload_n 0, 1) := by decide +kernel
theorem dX8_gather_104 : decode cX8_gather 104 = .ok (.dup, 1) := by decide +kernel
theorem dX8_gather_105 : decode cX8_gather 105 = .ok (.getfield 23, 3) := by decide +kernel
theorem dX8_gather_108 : decode cX8_gather 108 = .ok (.iload 4, 2) := by decide +kernel
theorem dX8_gather_110 : decode cX8_gather 110 = .ok (.iload 5, 2) := by decide +kernel
theorem dX8_gather_112 : decode cX8_gather 112 = .ok (.if_icmp .ne 7, 3) := by decide +kernel
theorem dX8_gather_115 : decode cX8_gather 115 = .ok (.iconst 1, 1) := by decide +kernel
theorem dX8_gather_116 : decode cX8_gather 116 = .ok (.goto 4, 3) := by decide +kernel
theorem dX8_gather_119 : decode cX8_gather 119 = .ok (.iconst 0, 1) := by decide +kernel
theorem dX8_gather_120 : decode cX8_gather 120 = .ok (.iadd, 1) := by decide +kernel
theorem dX8_gather_121 : decode cX8_gather 121 = .ok (.putfield 23, 3) := by decide +kernel
theorem dX8_gather_124 : decode cX8_gather 124 = .ok (.iinc 3 (-1), 3) := by decide +kernel
theorem dX8_gather_127 : decode cX8_gather 127 = .ok (.goto (-98), 3) := by decide +kernel
theorem dX8_gather_130 : decode cX8_gather 130 = .ok (.return_, 1) := by decide +kernel
theorem dX8_odds_0 : decode cX8_odds 0 = .ok (.lconst 0, 1) := by decide +kernel
theorem dX8_odds_1 : decode cX8_odds 1 = .ok (.lstore_n 1, 1) := by decide +kernel
theorem dX8_odds_2 : decode cX8_odds 2 = .ok (.lconst 1, 1) := by decide +kernel
theorem dX8_odds_3 : decode cX8_odds 3 = .ok (.lstore_n 3, 1) := by decide +kernel
theorem dX8_odds_4 : decode cX8_odds 4 = .ok (.aload_n 0, 1) := by decide +kernel
theorem dX8_odds_5 : decode cX8_odds 5 = .ok (.getfield 19, 3) := by decide +kernel
theorem dX8_odds_8 : decode cX8_odds 8 = .ok (.istore 5, 2) := by decide +kernel
theorem dX8_odds_10 : decode cX8_odds 10 = .ok (.iload 5, 2) := by decide +kernel
theorem dX8_odds_12 : decode cX8_odds 12 = .ok (.aload_n 0, 1) := by decide +kernel
theorem dX8_odds_13 : decode cX8_odds 13 = .ok (.getfield 23, 3) := by decide +kernel
theorem dX8_odds_16 : decode cX8_odds 16 = .ok (.if_icmp .lt 30, 3) := by decide +kernel
theorem dX8_odds_19 : decode cX8_odds 19 = .ok (.lload_n 1, 1) := by decide +kernel
theorem dX8_odds_20 : decode cX8_odds 20 = .ok (.lload_n 3, 1) := by decide +kernel
theorem dX8_odds_21 : decode cX8_odds 21 = .ok (.ladd, 1) := by decide +kernel
theorem dX8_odds_22 : decode cX8_odds 22 = .ok (.lstore_n 1, 1) := by decide +kernel
theorem dX8_odds_23 : decode cX8_odds 23 = .ok (.lload_n 3, 1) := by decide +kernel
theorem dX8_odds_24 : decode cX8_odds 24 = .ok (.iload 5, 2) := by decide +kernel
theorem dX8_odds_26 : decode cX8_odds 26 = .ok (.i2l, 1) := by decide +kernel
theorem dX8_odds_27 : decode cX8_odds 27 = .ok (.lmul, 1) := by decide +kernel
theorem dX8_odds_28 : decode cX8_odds 28 = .ok (.aload_n 0, 1) := by decide +kernel
theorem dX8_odds_29 : decode cX8_odds 29 = .ok (.getfield 19, 3) := by decide +kernel
theorem dX8_odds_32 : decode cX8_odds 32 = .ok (.iload 5, 2) := by decide +kernel
theorem dX8_odds_34 : decode cX8_odds 34 = .ok (.isub, 1) := by decide +kernel
theorem dX8_odds_35 : decode cX8_odds 35 = .ok (.iconst 1, 1) := by decide +kernel
theorem dX8_odds_36 : decode cX8_odds 36 = .ok (.iadd, 1) := by decide +kernel
theorem dX8_odds_37 : decode cX8_odds 37 = .ok (.i2l, 1) := by decide +kernel
theorem dX8_odds_38 : decode cX8_odds 38 = .ok (.ldiv, 1) := by decide +kernel
theorem dX8_odds_39 : decode cX8_odds 39 = .ok (.lstore_n 3, 1) := by decide +kernel
theorem dX8_odds_40 : decode cX8_odds 40 = .ok (.iinc 5 (-1), 3) := by decide +kernel
theorem dX8_odds_43 : decode cX8_odds 43 = .ok (.goto (-33), 3) := by decide +kernel
theorem dX8_odds_46 : decode cX8_odds 46 = .ok (.lload_n 1, 1) := by decide +kernel
theorem dX8_odds_47 : decode cX8_odds 47 = .ok (.lreturn, 1) := by decide +kernel
theorem dX8_bestLag_0 : decode cX8_bestLag 0 = .ok (.iconst (-1), 1) := by decide +kernel
theorem dX8_bestLag_1 : decode cX8_bestLag 1 = .ok (.istore_n 1, 1) := by decide +kernel
theorem dX8_bestLag_2 : decode cX8_bestLag 2 = .ok (.lconst 0, 1) := by decide +kernel
theorem dX8_bestLag_3 : decode cX8_bestLag 3 = .ok (.lstore_n 2, 1) := by decide +kernel
theorem dX8_bestLag_4 : decode cX8_bestLag 4 = .ok (.iconst 0, 1) := by decide +kernel
theorem dX8_bestLag_5 : decode cX8_bestLag 5 = .ok (.istore 4, 2) := by decide +kernel
theorem dX8_bestLag_7 : decode cX8_bestLag 7 = .ok (.iload 4, 2) := by decide +kernel
theorem dX8_bestLag_9 : decode cX8_bestLag 9 = .ok (.bipush 9, 2) := by decide +kernel
theorem dX8_bestLag_11 : decode cX8_bestLag 11 = .ok (.if_icmp .gt 54, 3) := by decide +kernel
theorem dX8_bestLag_14 : decode cX8_bestLag 14 = .ok (.aload_n 0, 1) := by decide +kernel
theorem dX8_bestLag_15 : decode cX8_bestLag 15 = .ok (.iload 4, 2) := by decide +kernel
theorem dX8_bestLag_17 : decode cX8_bestLag 17 = .ok (.invokevirtual 76, 3) := by decide +kernel
theorem dX8_bestLag_20 : decode cX8_bestLag 20 = .ok (.aload_n 0, 1) := by decide +kernel
theorem dX8_bestLag_21 : decode cX8_bestLag 21 = .ok (.getfield 19, 3) := by decide +kernel
theorem dX8_bestLag_24 : decode cX8_bestLag 24 = .ok (.ifCond .le 35, 3) := by decide +kernel
theorem dX8_bestLag_27 : decode cX8_bestLag 27 = .ok (.aload_n 0, 1) := by decide +kernel
theorem dX8_bestLag_28 : decode cX8_bestLag 28 = .ok (.invokevirtual 79, 3) := by decide +kernel
theorem dX8_bestLag_31 : decode cX8_bestLag 31 = .ok (.bipush 40, 2) := by decide +kernel
theorem dX8_bestLag_33 : decode cX8_bestLag 33 = .ok (.aload_n 0, 1) := by decide +kernel
theorem dX8_bestLag_34 : decode cX8_bestLag 34 = .ok (.getfield 19, 3) := by decide +kernel
theorem dX8_bestLag_37 : decode cX8_bestLag 37 = .ok (.isub, 1) := by decide +kernel
theorem dX8_bestLag_38 : decode cX8_bestLag 38 = .ok (.lshl, 1) := by decide +kernel
theorem dX8_bestLag_39 : decode cX8_bestLag 39 = .ok (.lstore 5, 2) := by decide +kernel
theorem dX8_bestLag_41 : decode cX8_bestLag 41 = .ok (.iload_n 1, 1) := by decide +kernel
theorem dX8_bestLag_42 : decode cX8_bestLag 42 = .ok (.iconst (-1), 1) := by decide +kernel
theorem dX8_bestLag_43 : decode cX8_bestLag 43 = .ok (.if_icmp .eq 10, 3) := by decide +kernel
theorem dX8_bestLag_46 : decode cX8_bestLag 46 = .ok (.lload 5, 2) := by decide +kernel
theorem dX8_bestLag_48 : decode cX8_bestLag 48 = .ok (.lload_n 2, 1) := by decide +kernel
theorem dX8_bestLag_49 : decode cX8_bestLag 49 = .ok (.lcmp, 1) := by decide +kernel
theorem dX8_bestLag_50 : decode cX8_bestLag 50 = .ok (.ifCond .ge 9, 3) := by decide +kernel
theorem dX8_bestLag_53 : decode cX8_bestLag 53 = .ok (.iload 4, 2) := by decide +kernel
theorem dX8_bestLag_55 : decode cX8_bestLag 55 = .ok (.istore_n 1, 1) := by decide +kernel
theorem dX8_bestLag_56 : decode cX8_bestLag 56 = .ok (.lload 5, 2) := by decide +kernel
theorem dX8_bestLag_58 : decode cX8_bestLag 58 = .ok (.lstore_n 2, 1) := by decide +kernel
theorem dX8_bestLag_59 : decode cX8_bestLag 59 = .ok (.iinc 4 1, 3) := by decide +kernel
theorem dX8_bestLag_62 : decode cX8_bestLag 62 = .ok (.goto (-55), 3) := by decide +kernel
theorem dX8_bestLag_65 : decode cX8_bestLag 65 = .ok (.iload_n 1, 1) := by decide +kernel
theorem dX8_bestLag_66 : decode cX8_bestLag 66 = .ok (.ireturn, 1) := by decide +kernel
theorem dX9_init_0 : decode cX9_init 0 = .ok (.aload_n 0, 1) := by decide +kernel
theorem dX9_init_1 : decode cX9_init 1 = .ok (.invokespecial 3, 3) := by decide +kernel
theorem dX9_init_4 : decode cX9_init 4 = .ok (.aload_n 0, 1) := by decide +kernel
theorem dX9_init_5 : decode cX9_init 5 = .ok (.aload_n 1, 1) := by decide +kernel
theorem dX9_init_6 : decode cX9_init 6 = .ok (.putfield 9, 3) := by decide +kernel
theorem dX9_init_9 : decode cX9_init 9 = .ok (.aload_n 0, 1) := by decide +kernel
theorem dX9_init_10 : decode cX9_init 10 = .ok (.new 15, 3) := by decide +kernel
theorem dX9_init_13 : decode cX9_init 13 = .ok (.dup, 1) := by decide +kernel
theorem dX9_init_14 : decode cX9_init 14 = .ok (.invokespecial 17, 3) := by decide +kernel
theorem dX9_init_17 : decode cX9_init 17 = .ok (.putfield 18, 3) := by decide +kernel
theorem dX9_init_20 : decode cX9_init 20 = .ok (.return_, 1) := by decide +kernel
theorem dX9_rehearse_0 : decode cX9_rehearse 0 = .ok (.aload_n 0, 1) := by decide +kernel
theorem dX9_rehearse_1 : decode cX9_rehearse 1 = .ok (.getfield 18, 3) := by decide +kernel
theorem dX9_rehearse_4 : decode cX9_rehearse 4 = .ok (.aload_n 0, 1) := by decide +kernel
theorem dX9_rehearse_5 : decode cX9_rehearse 5 = .ok (.getfield 9, 3) := by decide +kernel
theorem dX9_rehearse_8 : decode cX9_rehearse 8 = .ok (.getfield 22, 3) := by decide +kernel
theorem dX9_rehearse_11 : decode cX9_rehearse 11 = .ok (.invokevirtual 27, 3) := by decide +kernel
theorem dX9_rehearse_14 : decode cX9_rehearse 14 = .ok (.aload_n 0, 1) := by decide +kernel
theorem dX9_rehearse_15 : decode cX9_rehearse 15 = .ok (.getfield 9, 3) := by decide +kernel
theorem dX9_rehearse_18 : decode cX9_rehearse 18 = .ok (.getfield 31, 3) := by decide +kernel
theorem dX9_rehearse_21 : decode cX9_rehearse 21 = .ok (.lstore 5, 2) := by decide +kernel
theorem dX9_rehearse_23 : decode cX9_rehearse 23 = .ok (.aload_n 0, 1) := by decide +kernel
theorem dX9_rehearse_24 : decode cX9_rehearse 24 = .ok (.getfield 9, 3) := by decide +kernel
theorem dX9_rehearse_27 : decode cX9_rehearse 27 = .ok (.getfield 35, 3) := by decide +kernel
theorem dX9_rehearse_30 : decode cX9_rehearse 30 = .ok (.istore 7, 2) := by decide +kernel
theorem dX9_rehearse_32 : decode cX9_rehearse 32 = .ok (.aload_n 0, 1) := by decide +kernel
theorem dX9_rehearse_33 : decode cX9_rehearse 33 = .ok (.getfield 9, 3) := by decide +kernel
theorem dX9_rehearse_36 : decode cX9_rehearse 36 = .ok (.getfield 39, 3) := by decide +kernel
theorem dX9_rehearse_39 : decode cX9_rehearse 39 = .ok (.getfield 43, 3) := by decide +kernel
theorem dX9_rehearse_42 : decode cX9_rehearse 42 = .ok (.iload 7, 2) := by decide +kernel
theorem dX9_rehearse_44 : decode cX9_rehearse 44 = .ok (.iaload, 1) := by decide +kernel
theorem dX9_rehearse_45 : decode cX9_rehearse 45 = .ok (.istore 8, 2) := by decide +kernel
theorem dX9_rehearse_47 : decode cX9_rehearse 47 = .ok (.iconst 0, 1) := by decide +kernel
theorem dX9_rehearse_48 : decode cX9_rehearse 48 = .ok (.istore 9, 2) := by decide +kernel
theorem dX9_rehearse_50 : decode cX9_rehearse 50 = .ok (.iload 9, 2) := by decide +kernel
theorem dX9_rehearse_52 : decode cX9_rehearse 52 = .ok (.iload_n 2, 1) := by decide +kernel
theorem dX9_rehearse_53 : decode cX9_rehearse 53 = .ok (.if_icmp .ge 73, 3) := by decide +kernel
theorem dX9_rehearse_56 : decode cX9_rehearse 56 = .ok (.iload 4, 2) := by decide +kernel
theorem dX9_rehearse_58 : decode cX9_rehearse 58 = .ok (.iconst (-1), 1) := by decide +kernel
theorem dX9_rehearse_59 : decode cX9_rehearse 59 = .ok (.if_icmp .eq 20, 3) := by decide +kernel
theorem dX9_rehearse_62 : decode cX9_rehearse 62 = .ok (.iload_n 3, 1) := by decide +kernel
theorem dX9_rehearse_63 : decode cX9_rehearse 63 = .ok (.ifCond .le 16, 3) := by decide +kernel
theorem dX9_rehearse_66 : decode cX9_rehearse 66 = .ok (.iload 9, 2) := by decide +kernel
theorem dX9_rehearse_68 : decode cX9_rehearse 68 = .ok (.iload_n 3, 1) := by decide +kernel
theorem dX9_rehearse_69 : decode cX9_rehearse 69 = .ok (.idiv, 1) := by decide +kernel
theorem dX9_rehearse_70 : decode cX9_rehearse 70 = .ok (.iconst 2, 1) := by decide +kernel
theorem dX9_rehearse_71 : decode cX9_rehearse 71 = .ok (.irem, 1) := by decide +kernel
theorem dX9_rehearse_72 : decode cX9_rehearse 72 = .ok (.ifCond .ne 7, 3) := by decide +kernel
theorem dX9_rehearse_75 : decode cX9_rehearse 75 = .ok (.iconst 1, 1) := by decide +kernel
theorem dX9_rehearse_76 : decode cX9_rehearse 76 = .ok (.goto 4, 3) := by decide +kernel
theorem dX9_rehearse_79 : decode cX9_rehearse 79 = .ok (.iconst 0, 1) := by decide +kernel
theorem dX9_rehearse_80 : decode cX9_rehearse 80 = .ok (.istore 10, 2) := by decide +kernel
theorem dX9_rehearse_82 : decode cX9_rehearse 82 = .ok (.aload_n 0, 1) := by decide +kernel
theorem dX9_rehearse_83 : decode cX9_rehearse 83 = .ok (.getfield 9, 3) := by decide +kernel
theorem dX9_rehearse_86 : decode cX9_rehearse 86 = .ok (.getfield 39, 3) := by decide +kernel
theorem dX9_rehearse_89 : decode cX9_rehearse 89 = .ok (.getfield 43, 3) := by decide +kernel
theorem dX9_rehearse_92 : decode cX9_rehearse 92 = .ok (.aload_n 0, 1) := by decide +kernel
theorem dX9_rehearse_93 : decode cX9_rehearse 93 = .ok (.getfield 9, 3) := by decide +kernel
theorem dX9_rehearse_96 : decode cX9_rehearse 96 = .ok (.getfield 35, 3) := by decide +kernel
theorem dX9_rehearse_99 : decode cX9_rehearse 99 = .ok (.iload 10, 2) := by decide +kernel
theorem dX9_rehearse_101 : decode cX9_rehearse 101 = .ok (.ifCond .eq 8, 3) := by decide +kernel
theorem dX9_rehearse_104 : decode cX9_rehearse 104 = .ok (.iload 4, 2) := by decide +kernel
theorem dX9_rehearse_106 : decode cX9_rehearse 106 = .ok (.goto 5, 3) := by decide +kernel
theorem dX9_rehearse_109 : decode cX9_rehearse 109 = .ok (.iload 8, 2) := by decide +kernel
theorem dX9_rehearse_111 : decode cX9_rehearse 111 = .ok (.iastore, 1) := by decide +kernel
theorem dX9_rehearse_112 : decode cX9_rehearse 112 = .ok (.aload_n 0, 1) := by decide +kernel
theorem dX9_rehearse_113 : decode cX9_rehearse 113 = .ok (.getfield 9, 3) := by decide +kernel
theorem dX9_rehearse_116 : decode cX9_rehearse 116 = .ok (.aload_n 1, 1) := by decide +kernel
theorem dX9_rehearse_117 : decode cX9_rehearse 117 = .ok (.invokevirtual 49, 3) := by decide +kernel
theorem dX9_rehearse_120 : decode cX9_rehearse 120 = .ok (.iinc 9 1, 3) := by decide +kernel
theorem dX9_rehearse_123 : decode cX9_rehearse 123 = .ok (.goto (-73), 3) := by decide +kernel
theorem dX9_rehearse_126 : decode cX9_rehearse 126 = .ok (.aload_n 0, 1) := by decide +kernel
theorem dX9_rehearse_127 : decode cX9_rehearse 127 = .ok (.getfield 9, 3) := by decide +kernel
theorem dX9_rehearse_130 : decode cX9_rehearse 130 = .ok (.getfield 39, 3) := by decide +kernel
theorem dX9_rehearse_133 : decode cX9_rehearse 133 = .ok (.getfield 43, 3) := by decide +kernel
theorem dX9_rehearse_136 : decode cX9_rehearse 136 = .ok (.iload 7, 2) := by decide +kernel
theorem dX9_rehearse_138 : decode cX9_rehearse 138 = .ok (.iload 8, 2) := by decide +kernel
theorem dX9_rehearse_140 : decode cX9_rehearse 140 = .ok (.iastore, 1) := by decide +kernel
theorem dX9_rehearse_141 : decode cX9_rehearse 141 = .ok (.aload_n 0, 1) := by decide +kernel
theorem dX9_rehearse_142 : decode cX9_rehearse 142 = .ok (.getfield 9, 3) := by decide +kernel
theorem dX9_rehearse_145 : decode cX9_rehearse 145 = .ok (.iload 7, 2) := by decide +kernel
theorem dX9_rehearse_147 : decode cX9_rehearse 147 = .ok (.putfield 35, 3) := by decide +kernel
theorem dX9_rehearse_150 : decode cX9_rehearse 150 = .ok (.aload_n 0, 1) := by decide +kernel
theorem dX9_rehearse_151 : decode cX9_rehearse 151 = .ok (.getfield 9, 3) := by decide +kernel
theorem dX9_rehearse_154 : decode cX9_rehearse 154 = .ok (.lload 5, 2) := by decide +kernel
theorem dX9_rehearse_156 : decode cX9_rehearse 156 = .ok (.putfield 31, 3) := by decide +kernel
theorem dX9_rehearse_159 : decode cX9_rehearse 159 = .ok (.aload_n 0, 1) := by decide +kernel
theorem dX9_rehearse_160 : decode cX9_rehearse 160 = .ok (.getfield 9, 3) := by decide +kernel
theorem dX9_rehearse_163 : decode cX9_rehearse 163 = .ok (.getfield 22, 3) := by decide +kernel
theorem dX9_rehearse_166 : decode cX9_rehearse 166 = .ok (.aload_n 0, 1) := by decide +kernel
theorem dX9_rehearse_167 : decode cX9_rehearse 167 = .ok (.getfield 18, 3) := by decide +kernel
theorem dX9_rehearse_170 : decode cX9_rehearse 170 = .ok (.invokevirtual 27, 3) := by decide +kernel
theorem dX9_rehearse_173 : decode cX9_rehearse 173 = .ok (.return_, 1) := by decide +kernel
theorem dX9_roundIn_0 : decode cX9_roundIn 0 = .ok (.iconst 1, 1) := by decide +kernel
theorem dX9_roundIn_1 : decode cX9_roundIn 1 = .ok (.istore 4, 2) := by decide +kernel
theorem dX9_roundIn_3 : decode cX9_roundIn 3 = .ok (.iload 4, 2) := by decide +kernel
theorem dX9_roundIn_5 : decode cX9_roundIn 5 = .ok (.iload_n 1, 1) := by decide +kernel
theorem dX9_roundIn_6 : decode cX9_roundIn 6 = .ok (.if_icmp .gt 39, 3) := by decide +kernel
theorem dX9_roundIn_9 : decode cX9_roundIn 9 = .ok (.aload_n 0, 1) := by decide +kernel
theorem dX9_roundIn_10 : decode cX9_roundIn 10 = .ok (.iload 4, 2) := by decide +kernel
theorem dX9_roundIn_12 : decode cX9_roundIn 12 = .ok (.iload_n 2, 1) := by decide +kernel
theorem dX9_roundIn_13 : decode cX9_roundIn 13 = .ok (.invokevirtual 53, 3) := by decide +kernel
theorem dX9_roundIn_16 : decode cX9_roundIn 16 = .ok (.istore 5, 2) := by decide +kernel
theorem dX9_roundIn_18 : decode cX9_roundIn 18 = .ok (.iload 5, 2) := by decide +kernel
theorem dX9_roundIn_20 : decode cX9_roundIn 20 = .ok (.iconst (-1), 1) := by decide +kernel
theorem dX9_roundIn_21 : decode cX9_roundIn 21 = .ok (.if_icmp .eq 18, 3) := by decide +kernel
theorem dX9_roundIn_24 : decode cX9_roundIn 24 = .ok (.iload_n 3, 1) := by decide +kernel
theorem dX9_roundIn_25 : decode cX9_roundIn 25 = .ok (.ifCond .ne 8, 3) := by decide +kernel
theorem dX9_roundIn_28 : decode cX9_roundIn 28 = .ok (.iload 4, 2) := by decide +kernel
theorem dX9_roundIn_30 : decode cX9_roundIn 30 = .ok (.goto 8, 3) := by decide +kernel
theorem dX9_roundIn_33 : decode cX9_roundIn 33 = .ok (.iload 4, 2) := by decide +kernel
theorem dX9_roundIn_35 : decode cX9_roundIn 35 = .ok (.iload 5, 2) := by decide +kernel
theorem dX9_roundIn_37 : decode cX9_roundIn 37 = .ok (.isub, 1) := by decide +kernel
theorem dX9_roundIn_38 : decode cX9_roundIn 38 = .ok (.ireturn, 1) := by decide +kernel
theorem dX9_roundIn_39 : decode cX9_roundIn 39 = .ok (.iinc 4 1, 3) := by decide +kernel
theorem dX9_roundIn_42 : decode cX9_roundIn 42 = .ok (.goto (-39), 3) := by decide +kernel
theorem dX9_roundIn_45 : decode cX9_roundIn 45 = .ok (.iconst (-1), 1) := by decide +kernel
theorem dX9_roundIn_46 : decode cX9_roundIn 46 = .ok (.ireturn, 1) := by decide +kernel
theorem dX9_sameBefore_0 : decode cX9_sameBefore 0 = .ok (.iconst 1, 1) := by decide +kernel
theorem dX9_sameBefore_1 : decode cX9_sameBefore 1 = .ok (.iload_n 2, 1) := by decide +kernel
theorem dX9_sameBefore_2 : decode cX9_sameBefore 2 = .ok (.invokestatic 57, 3) := by decide +kernel
theorem dX9_sameBefore_5 : decode cX9_sameBefore 5 = .ok (.istore_n 3, 1) := by decide +kernel
theorem dX9_sameBefore_6 : decode cX9_sameBefore 6 = .ok (.iload_n 1, 1) := by decide +kernel
theorem dX9_sameBefore_7 : decode cX9_sameBefore 7 = .ok (.iload_n 3, 1) := by decide +kernel
theorem dX9_sameBefore_8 : decode cX9_sameBefore 8 = .ok (.isub, 1) := by decide +kernel
theorem dX9_sameBefore_9 : decode cX9_sameBefore 9 = .ok (.istore 4, 2) := by decide +kernel
theorem dX9_sameBefore_11 : decode cX9_sameBefore 11 = .ok (.iload 4, 2) := by decide +kernel
theorem dX9_sameBefore_13 : decode cX9_sameBefore 13 = .ok (.ifCond .lt 57, 3) := by decide +kernel
theorem dX9_sameBefore_16 : decode cX9_sameBefore 16 = .ok (.aload_n 0, 1) := by decide +kernel
theorem dX9_sameBefore_17 : decode cX9_sameBefore 17 = .ok (.getfield 9, 3) := by decide +kernel
theorem dX9_sameBefore_20 : decode cX9_sameBefore 20 = .ok (.getfield 39, 3) := by decide +kernel
theorem dX9_sameBefore_23 : decode cX9_sameBefore 23 = .ok (.aload_n 0, 1) := by decide +kernel
theorem dX9_sameBefore_24 : decode cX9_sameBefore 24 = .ok (.getfield 9, 3) := by decide +kernel
theorem dX9_sameBefore_27 : decode cX9_sameBefore 27 = .ok (.getfield 35, 3) := by decide +kernel
theorem dX9_sameBefore_30 : decode cX9_sameBefore 30 = .ok (.iload 4, 2) := by decide +kernel
theorem dX9_sameBefore_32 : decode cX9_sameBefore 32 = .ok (.iadd, 1) := by decide +kernel
theorem dX9_sameBefore_33 : decode cX9_sameBefore 33 = .ok (.aload_n 0, 1) := by decide +kernel
theorem dX9_sameBefore_34 : decode cX9_sameBefore 34 = .ok (.getfield 9, 3) := by decide +kernel
theorem dX9_sameBefore_37 : decode cX9_sameBefore 37 = .ok (.getfield 35, 3) := by decide +kernel
theorem dX9_sameBefore_40 : decode cX9_sameBefore 40 = .ok (.iload_n 1, 1) := by decide +kernel
theorem dX9_sameBefore_41 : decode cX9_sameBefore 41 = .ok (.iadd, 1) := by decide +kernel
theorem dX9_sameBefore_42 : decode cX9_sameBefore 42 = .ok (.aload_n 0, 1) := by decide +kernel
theorem dX9_sameBefore_43 : decode cX9_sameBefore 43 = .ok (.getfield 9, 3) := by decide +kernel
theorem dX9_sameBefore_46 : decode cX9_sameBefore 46 = .ok (.getfield 22, 3) := by decide +kernel
theorem dX9_sameBefore_49 : decode cX9_sameBefore 49 = .ok (.getfield 62, 3) := by decide +kernel
theorem dX9_sameBefore_52 : decode cX9_sameBefore 52 = .ok (.invokevirtual 65, 3) := by decide +kernel
theorem dX9_sameBefore_55 : decode cX9_sameBefore 55 = .ok (.ifCond .eq 6, 3) := by decide +kernel
theorem dX9_sameBefore_58 : decode cX9_sameBefore 58 = .ok (.iload 4, 2) := by decide +kernel
theorem dX9_sameBefore_60 : decode cX9_sameBefore 60 = .ok (.ireturn, 1) := by decide +kernel
theorem dX9_sameBefore_61 : decode cX9_sameBefore 61 = .ok (.iload 4, 2) := by decide +kernel
theorem dX9_sameBefore_63 : decode cX9_sameBefore 63 = .ok (.iload_n 3, 1) := by decide +kernel
theorem dX9_sameBefore_64 : decode cX9_sameBefore 64 = .ok (.isub, 1) := by decide +kernel
theorem dX9_sameBefore_65 : decode cX9_sameBefore 65 = .ok (.istore 4, 2) := by decide +kernel
theorem dX9_sameBefore_67 : decode cX9_sameBefore 67 = .ok (.goto (-56), 3) := by decide +kernel
theorem dX9_sameBefore_70 : decode cX9_sameBefore 70 = .ok (.iconst (-1), 1) := by decide +kernel
theorem dX9_sameBefore_71 : decode cX9_sameBefore 71 = .ok (.ireturn, 1) := by decide +kernel
theorem dX10_init_0 : decode cX10_init 0 = .ok (.aload_n 0, 1) := by decide +kernel
theorem dX10_init_1 : decode cX10_init 1 = .ok (.invokespecial 3, 3) := by decide +kernel
theorem dX10_init_4 : decode cX10_init 4 = .ok (.aload_n 0, 1) := by decide +kernel
theorem dX10_init_5 : decode cX10_init 5 = .ok (.new 9, 3) := by decide +kernel
theorem dX10_init_8 : decode cX10_init 8 = .ok (.dup, 1) := by decide +kernel
theorem dX10_init_9 : decode cX10_init 9 = .ok (.invokespecial 11, 3) := by decide +kernel
theorem dX10_init_12 : decode cX10_init 12 = .ok (.putfield 12, 3) := by decide +kernel
theorem dX10_init_15 : decode cX10_init 15 = .ok (.aload_n 0, 1) := by decide +kernel
theorem dX10_init_16 : decode cX10_init 16 = .ok (.new 18, 3) := by decide +kernel
theorem dX10_init_19 : decode cX10_init 19 = .ok (.dup, 1) := by decide +kernel
theorem dX10_init_20 : decode cX10_init 20 = .ok (.iload_n 1, 1) := by decide +kernel
theorem dX10_init_21 : decode cX10_init 21 = .ok (.invokespecial 20, 3) := by decide +kernel
theorem dX10_init_24 : decode cX10_init 24 = .ok (.putfield 23, 3) := by decide +kernel
theorem dX10_init_27 : decode cX10_init 27 = .ok (.aload_n 0, 1) := by decide +kernel
theorem dX10_init_28 : decode cX10_init 28 = .ok (.new 27, 3) := by decide +kernel
theorem dX10_init_31 : decode cX10_init 31 = .ok (.dup, 1) := by decide +kernel
theorem dX10_init_32 : decode cX10_init 32 = .ok (.aload_n 0, 1) := by decide +kernel
theorem dX10_init_33 : decode cX10_init 33 = .ok (.getfield 12, 3) := by decide +kernel
theorem dX10_init_36 : decode cX10_init 36 = .ok (.aload_n 0, 1) := by decide +kernel
theorem dX10_init_37 : decode cX10_init 37 = .ok (.getfield 23, 3) := by decide +kernel
theorem dX10_init_40 : decode cX10_init 40 = .ok (.invokespecial 29, 3) := by decide +kernel
theorem dX10_init_43 : decode cX10_init 43 = .ok (.putfield 32, 3) := by decide +kernel
theorem dX10_init_46 : decode cX10_init 46 = .ok (.aload_n 0, 1) := by decide +kernel
theorem dX10_init_47 : decode cX10_init 47 = .ok (.iconst 0, 1) := by decide +kernel
theorem dX10_init_48 : decode cX10_init 48 = .ok (.putfield 36, 3) := by decide +kernel
theorem dX10_init_51 : decode cX10_init 51 = .ok (.aload_n 0, 1) := by decide +kernel
theorem dX10_init_52 : decode cX10_init 52 = .ok (.iconst 0, 1) := by decide +kernel
theorem dX10_init_53 : decode cX10_init 53 = .ok (.putfield 40, 3) := by decide +kernel
theorem dX10_init_56 : decode cX10_init 56 = .ok (.aload_n 0, 1) := by decide +kernel
theorem dX10_init_57 : decode cX10_init 57 = .ok (.iconst 0, 1) := by decide +kernel
theorem dX10_init_58 : decode cX10_init 58 = .ok (.putfield 43, 3) := by decide +kernel
theorem dX10_init_61 : decode cX10_init 61 = .ok (.aload_n 0, 1) := by decide +kernel
theorem dX10_init_62 : decode cX10_init 62 = .ok (.lconst 1, 1) := by decide +kernel
theorem dX10_init_63 : decode cX10_init 63 = .ok (.putfield 46, 3) := by decide +kernel
theorem dX10_init_66 : decode cX10_init 66 = .ok (.aload_n 0, 1) := by decide +kernel
theorem dX10_init_67 : decode cX10_init 67 = .ok (.iconst 0, 1) := by decide +kernel
theorem dX10_init_68 : decode cX10_init 68 = .ok (.putfield 50, 3) := by decide +kernel
theorem dX10_init_71 : decode cX10_init 71 = .ok (.aload_n 0, 1) := by decide +kernel
theorem dX10_init_72 : decode cX10_init 72 = .ok (.iconst 0, 1) := by decide +kernel
theorem dX10_init_73 : decode cX10_init 73 = .ok (.putfield 53, 3) := by decide +kernel
theorem dX10_init_76 : decode cX10_init 76 = .ok (.aload_n 0, 1) := by decide +kernel
theorem dX10_init_77 : decode cX10_init 77 = .ok (.bipush 20, 2) := by decide +kernel
theorem dX10_init_79 : decode cX10_init 79 = .ok (.newarray .int, 2) := by decide +kernel
theorem dX10_init_81 : decode cX10_init 81 = .ok (.putfield 56, 3) := by decide +kernel
theorem dX10_init_84 : decode cX10_init 84 = .ok (.aload_n 0, 1) := by decide +kernel
theorem dX10_init_85 : decode cX10_init 85 = .ok (.bipush 20, 2) := by decide +kernel
theorem dX10_init_87 : decode cX10_init 87 = .ok (.newarray .int, 2) := by decide +kernel
theorem dX10_init_89 : decode cX10_init 89 = .ok (.putfield 60, 3) := by decide +kernel
theorem dX10_init_92 : decode cX10_init 92 = .ok (.aload_n 0, 1) := by decide +kernel
theorem dX10_init_93 : decode cX10_init 93 = .ok (.bipush 20, 2) := by decide +kernel
theorem dX10_init_95 : decode cX10_init 95 = .ok (.newarray .int, 2) := by decide +kernel
theorem dX10_init_97 : decode cX10_init 97 = .ok (.putfield 63, 3) := by decide +kernel
theorem dX10_init_100 : decode cX10_init 100 = .ok (.return_, 1) := by decide +kernel
theorem dX10_copyOf_0 : decode cX10_copyOf 0 = .ok (.aload_n 0, 1) := by decide +kernel
theorem dX10_copyOf_1 : decode cX10_copyOf 1 = .ok (.getfield 12, 3) := by decide +kernel
theorem dX10_copyOf_4 : decode cX10_copyOf 4 = .ok (.aload_n 1, 1) := by decide +kernel
theorem dX10_copyOf_5 : decode cX10_copyOf 5 = .ok (.getfield 12, 3) := by decide +kernel
theorem dX10_copyOf_8 : decode cX10_copyOf 8 = .ok (.invokevirtual 66, 3) := by decide +kernel
theorem dX10_copyOf_11 : decode cX10_copyOf 11 = .ok (.aload_n 0, 1) := by decide +kernel
theorem dX10_copyOf_12 : decode cX10_copyOf 12 = .ok (.getfield 23, 3) := by decide +kernel
theorem dX10_copyOf_15 : decode cX10_copyOf 15 = .ok (.aload_n 1, 1) := by decide +kernel
theorem dX10_copyOf_16 : decode cX10_copyOf 16 = .ok (.getfield 23, 3) := by decide +kernel
theorem dX10_copyOf_19 : decode cX10_copyOf 19 = .ok (.aload_n 1, 1) := by decide +kernel
theorem dX10_copyOf_20 : decode cX10_copyOf 20 = .ok (.getfield 50, 3) := by decide +kernel
theorem dX10_copyOf_23 : decode cX10_copyOf 23 = .ok (.iconst 1, 1) := by decide +kernel
theorem dX10_copyOf_24 : decode cX10_copyOf 24 = .ok (.iadd, 1) := by decide +kernel
theorem dX10_copyOf_25 : decode cX10_copyOf 25 = .ok (.invokevirtual 70, 3) := by decide +kernel
theorem dX10_copyOf_28 : decode cX10_copyOf 28 = .ok (.aload_n 0, 1) := by decide +kernel
theorem dX10_copyOf_29 : decode cX10_copyOf 29 = .ok (.aload_n 1, 1) := by decide +kernel
theorem dX10_copyOf_30 : decode cX10_copyOf 30 = .ok (.getfield 36, 3) := by decide +kernel
theorem dX10_copyOf_33 : decode cX10_copyOf 33 = .ok (.putfield 36, 3) := by decide +kernel
theorem dX10_copyOf_36 : decode cX10_copyOf 36 = .ok (.aload_n 0, 1) := by decide +kernel
theorem dX10_copyOf_37 : decode cX10_copyOf 37 = .ok (.aload_n 1, 1) := by decide +kernel
theorem dX10_copyOf_38 : decode cX10_copyOf 38 = .ok (.getfield 40, 3) := by decide +kernel
theorem dX10_copyOf_41 : decode cX10_copyOf 41 = .ok (.putfield 40, 3) := by decide +kernel
theorem dX10_copyOf_44 : decode cX10_copyOf 44 = .ok (.aload_n 0, 1) := by decide +kernel
theorem dX10_copyOf_45 : decode cX10_copyOf 45 = .ok (.aload_n 1, 1) := by decide +kernel
theorem dX10_copyOf_46 : decode cX10_copyOf 46 = .ok (.getfield 43, 3) := by decide +kernel
theorem dX10_copyOf_49 : decode cX10_copyOf 49 = .ok (.putfield 43, 3) := by decide +kernel
theorem dX10_copyOf_52 : decode cX10_copyOf 52 = .ok (.aload_n 0, 1) := by decide +kernel
theorem dX10_copyOf_53 : decode cX10_copyOf 53 = .ok (.aload_n 1, 1) := by decide +kernel
theorem dX10_copyOf_54 : decode cX10_copyOf 54 = .ok (.getfield 46, 3) := by decide +kernel
theorem dX10_copyOf_57 : decode cX10_copyOf 57 = .ok (.putfield 46, 3) := by decide +kernel
theorem dX10_copyOf_60 : decode cX10_copyOf 60 = .ok (.aload_n 0, 1) := by decide +kernel
theorem dX10_copyOf_61 : decode cX10_copyOf 61 = .ok (.aload_n 1, 1) := by decide +kernel
theorem dX10_copyOf_62 : decode cX10_copyOf 62 = .ok (.getfield 50, 3) := by decide +kernel
theorem dX10_copyOf_65 : decode cX10_copyOf 65 = .ok (.putfield 50, 3) := by decide +kernel
theorem dX10_copyOf_68 : decode cX10_copyOf 68 = .ok (.aload_n 0, 1) := by decide +kernel
theorem dX10_copyOf_69 : decode cX10_copyOf 69 = .ok (.aload_n 1, 1) := by decide +kernel
theorem dX10_copyOf_70 : decode cX10_copyOf 70 = .ok (.getfield 53, 3) := by decide +kernel
theorem dX10_copyOf_73 : decode cX10_copyOf 73 = .ok (.putfield 53, 3) := by decide +kernel
theorem dX10_copyOf_76 : decode cX10_copyOf 76 = .ok (.aload_n 1, 1) := by decide +kernel
theorem dX10_copyOf_77 : decode cX10_copyOf 77 = .ok (.getfield 56, 3) := by decide +kernel
theorem dX10_copyOf_80 : decode cX10_copyOf 80 = .ok (.iconst 0, 1) := by decide +kernel
theorem dX10_copyOf_81 : decode cX10_copyOf 81 = .ok (.aload_n 0, 1) := by decide +kernel
theorem dX10_copyOf_82 : decode cX10_copyOf 82 = .ok (.getfield 56, 3) := by decide +kernel
theorem dX10_copyOf_85 : decode cX10_copyOf 85 = .ok (.iconst 0, 1) := by decide +kernel
theorem dX10_copyOf_86 : decode cX10_copyOf 86 = .ok (.aload_n 0, 1) := by decide +kernel
theorem dX10_copyOf_87 : decode cX10_copyOf 87 = .ok (.getfield 53, 3) := by decide +kernel
theorem dX10_copyOf_90 : decode cX10_copyOf 90 = .ok (.invokestatic 73, 3) := by decide +kernel
theorem dX10_copyOf_93 : decode cX10_copyOf 93 = .ok (.aload_n 1, 1) := by decide +kernel
theorem dX10_copyOf_94 : decode cX10_copyOf 94 = .ok (.getfield 60, 3) := by decide +kernel
theorem dX10_copyOf_97 : decode cX10_copyOf 97 = .ok (.iconst 0, 1) := by decide +kernel
theorem dX10_copyOf_98 : decode cX10_copyOf 98 = .ok (.aload_n 0, 1) := by decide +kernel
theorem dX10_copyOf_99 : decode cX10_copyOf 99 = .ok (.getfield 60, 3) := by decide +kernel
theorem dX10_copyOf_102 : decode cX10_copyOf 102 = .ok (.iconst 0, 1) := by decide +kernel
theorem dX10_copyOf_103 : decode cX10_copyOf 103 = .ok (.aload_n 0, 1) := by decide +kernel
theorem dX10_copyOf_104 : decode cX10_copyOf 104 = .ok (.getfield 53, 3) := by decide +kernel
theorem dX10_copyOf_107 : decode cX10_copyOf 107 = .ok (.invokestatic 73, 3) := by decide +kernel
theorem dX10_copyOf_110 : decode cX10_copyOf 110 = .ok (.aload_n 1, 1) := by decide +kernel
theorem dX10_copyOf_111 : decode cX10_copyOf 111 = .ok (.getfield 63, 3) := by decide +kernel
theorem dX10_copyOf_114 : decode cX10_copyOf 114 = .ok (.iconst 0, 1) := by decide +kernel
theorem dX10_copyOf_115 : decode cX10_copyOf 115 = .ok (.aload_n 0, 1) := by decide +kernel
theorem dX10_copyOf_116 : decode cX10_copyOf 116 = .ok (.getfield 63, 3) := by decide +kernel
theorem dX10_copyOf_119 : decode cX10_copyOf 119 = .ok (.iconst 0, 1) := by decide +kernel
theorem dX10_copyOf_120 : decode cX10_copyOf 120 = .ok (.aload_n 0, 1) := by decide +kernel
theorem dX10_copyOf_121 : decode cX10_copyOf 121 = .ok (.getfield 53, 3) := by decide +kernel
theorem dX10_copyOf_124 : decode cX10_copyOf 124 = .ok (.invokestatic 73, 3) := by decide +kernel
theorem dX10_copyOf_127 : decode cX10_copyOf 127 = .ok (.return_, 1) := by decide +kernel
theorem dX10_hasSeason_0 : decode cX10_hasSeason 0 = .ok (.iload_n 1, 1) := by decide +kernel
theorem dX10_hasSeason_1 : decode cX10_hasSeason 1 = .ok (.iconst 0, 1) := by decide +kernel
theorem dX10_hasSeason_2 : decode cX10_hasSeason 2 = .ok (.aload_n 0, 1) := by decide +kernel
theorem dX10_hasSeason_3 : decode cX10_hasSeason 3 = .ok (.getfield 50, 3) := by decide +kernel
theorem dX10_hasSeason_6 : decode cX10_hasSeason 6 = .ok (.invokestatic 79, 3) := by decide +kernel
theorem dX10_hasSeason_9 : decode cX10_hasSeason 9 = .ok (.ireturn, 1) := by decide +kernel
theorem dX10_lineAt_0 : decode cX10_lineAt 0 = .ok (.aload_n 0, 1) := by decide +kernel
theorem dX10_lineAt_1 : decode cX10_lineAt 1 = .ok (.getfield 12, 3) := by decide +kernel
theorem dX10_lineAt_4 : decode cX10_lineAt 4 = .ok (.getfield 83, 3) := by decide +kernel
theorem dX10_lineAt_7 : decode cX10_lineAt 7 = .ok (.ifCond .le 26, 3) := by decide +kernel
theorem dX10_lineAt_10 : decode cX10_lineAt 10 = .ok (.aload_n 0, 1) := by decide +kernel
theorem dX10_lineAt_11 : decode cX10_lineAt 11 = .ok (.getfield 23, 3) := by decide +kernel
theorem dX10_lineAt_14 : decode cX10_lineAt 14 = .ok (.getfield 86, 3) := by decide +kernel
theorem dX10_lineAt_17 : decode cX10_lineAt 17 = .ok (.iload_n 1, 1) := by decide +kernel
theorem dX10_lineAt_18 : decode cX10_lineAt 18 = .ok (.iaload, 1) := by decide +kernel
theorem dX10_lineAt_19 : decode cX10_lineAt 19 = .ok (.bipush 100, 2) := by decide +kernel
theorem dX10_lineAt_21 : decode cX10_lineAt 21 = .ok (.imul, 1) := by decide +kernel
theorem dX10_lineAt_22 : decode cX10_lineAt 22 = .ok (.aload_n 0, 1) := by decide +kernel
theorem dX10_lineAt_23 : decode cX10_lineAt 23 = .ok (.getfield 12, 3) := by decide +kernel
theorem dX10_lineAt_26 : decode cX10_lineAt 26 = .ok (.getfield 83, 3) := by decide +kernel
theorem dX10_lineAt_29 : decode cX10_lineAt 29 = .ok (.idiv, 1) := by decide +kernel
theorem dX10_lineAt_30 : decode cX10_lineAt 30 = .ok (.goto 4, 3) := by decide +kernel
theorem dX10_lineAt_33 : decode cX10_lineAt 33 = .ok (.iconst (-1), 1) := by decide +kernel
theorem dX10_lineAt_34 : decode cX10_lineAt 34 = .ok (.ireturn, 1) := by decide +kernel
theorem dX10_lineOf_0 : decode cX10_lineOf 0 = .ok (.iconst 0, 1) := by decide +kernel
theorem dX10_lineOf_1 : decode cX10_lineOf 1 = .ok (.istore_n 2, 1) := by decide +kernel
theorem dX10_lineOf_2 : decode cX10_lineOf 2 = .ok (.iconst 0, 1) := by decide +kernel
theorem dX10_lineOf_3 : decode cX10_lineOf 3 = .ok (.istore_n 3, 1) := by decide +kernel
theorem dX10_lineOf_4 : decode cX10_lineOf 4 = .ok (.iload_n 3, 1) := by decide +kernel
theorem dX10_lineOf_5 : decode cX10_lineOf 5 = .ok (.aload_n 0, 1) := by decide +kernel
theorem dX10_lineOf_6 : decode cX10_lineOf 6 = .ok (.getfield 12, 3) := by decide +kernel
theorem dX10_lineOf_9 : decode cX10_lineOf 9 = .ok (.getfield 83, 3) := by decide +kernel
theorem dX10_lineOf_12 : decode cX10_lineOf 12 = .ok (.if_icmp .ge 32, 3) := by decide +kernel
theorem dX10_lineOf_15 : decode cX10_lineOf 15 = .ok (.iload_n 1, 1) := by decide +kernel
theorem dX10_lineOf_16 : decode cX10_lineOf 16 = .ok (.iload_n 3, 1) := by decide +kernel
theorem dX10_lineOf_17 : decode cX10_lineOf 17 = .ok (.ishr, 1) := by decide +kernel
theorem dX10_lineOf_18 : decode cX10_lineOf 18 = .ok (.iconst 1, 1) := by decide +kernel
theorem dX10_lineOf_19 : decode cX10_lineOf 19 = .ok (.iand, 1) := by decide +kernel
theorem dX10_lineOf_20 : decode cX10_lineOf 20 = .ok (.ifCond .eq 18, 3) := by decide +kernel
theorem dX10_lineOf_23 : decode cX10_lineOf 23 = .ok (.iload_n 2, 1) := by decide +kernel
theorem dX10_lineOf_24 : decode cX10_lineOf 24 = .ok (.aload_n 0, 1) := by decide +kernel
theorem dX10_lineOf_25 : decode cX10_lineOf 25 = .ok (.getfield 23, 3) := by decide +kernel
theorem dX10_lineOf_28 : decode cX10_lineOf 28 = .ok (.iload_n 3, 1) := by decide +kernel
theorem dX10_lineOf_29 : decode cX10_lineOf 29 = .ok (.aload_n 0, 1) := by decide +kernel
theorem dX10_lineOf_30 : decode cX10_lineOf 30 = .ok (.getfield 50, 3) := by decide +kernel
theorem dX10_lineOf_33 : decode cX10_lineOf 33 = .ok (.invokevirtual 89, 3) := by decide +kernel
theorem dX10_lineOf_36 : decode cX10_lineOf 36 = .ok (.iadd, 1) := by decide +kernel
theorem dX10_lineOf_37 : decode cX10_lineOf 37 = .ok (.istore_n 2, 1) := by decide +kernel
theorem dX10_lineOf_38 : decode cX10_lineOf 38 = .ok (.iinc 3 1, 3) := by decide +kernel
theorem dX10_lineOf_41 : decode cX10_lineOf 41 = .ok (.goto (-37), 3) := by decide +kernel
theorem dX10_lineOf_44 : decode cX10_lineOf 44 = .ok (.iload_n 1, 1) := by decide +kernel
theorem dX10_lineOf_45 : decode cX10_lineOf 45 = .ok (.invokestatic 93, 3) := by decide +kernel
theorem dX10_lineOf_48 : decode cX10_lineOf 48 = .ok (.istore_n 3, 1) := by decide +kernel
theorem dX10_lineOf_49 : decode cX10_lineOf 49 = .ok (.iload_n 3, 1) := by decide +kernel
theorem dX10_lineOf_50 : decode cX10_lineOf 50 = .ok (.ifCond .le 12, 3) := by decide +kernel
theorem dX10_lineOf_53 : decode cX10_lineOf 53 = .ok (.iload_n 2, 1) := by decide +kernel
theorem dX10_lineOf_54 : decode cX10_lineOf 54 = .ok (.bipush 100, 2) := by decide +kernel
theorem dX10_lineOf_56 : decode cX10_lineOf 56 = .ok (.imul, 1) := by decide +kernel
theorem dX10_lineOf_57 : decode cX10_lineOf 57 = .ok (.iload_n 3, 1) := by decide +kernel
theorem dX10_lineOf_58 : decode cX10_lineOf 58 = .ok (.idiv, 1) := by decide +kernel
theorem dX10_lineOf_59 : decode cX10_lineOf 59 = .ok (.goto 4, 3) := by decide +kernel
theorem dX10_lineOf_62 : decode cX10_lineOf 62 = .ok (.iconst (-1), 1) := by decide +kernel
theorem dX10_lineOf_63 : decode cX10_lineOf 63 = .ok (.ireturn, 1) := by decide +kernel
theorem dX10_keepForetold_0 : decode cX10_keepForetold 0 = .ok (.aload_n 0, 1) := by decide +kernel
theorem dX10_keepForetold_1 : decode cX10_keepForetold 1 = .ok (.getfield 53, 3) := by decide +kernel
theorem dX10_keepForetold_4 : decode cX10_keepForetold 4 = .ok (.bipush 20, 2) := by decide +kernel
theorem dX10_keepForetold_6 : decode cX10_keepForetold 6 = .ok (.if_icmp .lt 5, 3) := by decide +kernel
theorem dX10_keepForetold_9 : decode cX10_keepForetold 9 = .ok (.iconst (-1), 1) := by decide +kernel
theorem dX10_keepForetold_10 : decode cX10_keepForetold 10 = .ok (.ireturn, 1) := by decide +kernel
theorem dX10_keepForetold_11 : decode cX10_keepForetold 11 = .ok (.aload_n 0, 1) := by decide +kernel
theorem dX10_keepForetold_12 : decode cX10_keepForetold 12 = .ok (.getfield 56, 3) := by decide +kernel
theorem dX10_keepForetold_15 : decode cX10_keepForetold 15 = .ok (.aload_n 0, 1) := by decide +kernel
theorem dX10_keepForetold_16 : decode cX10_keepForetold 16 = .ok (.getfield 53, 3) := by decide +kernel
theorem dX10_keepForetold_19 : decode cX10_keepForetold 19 = .ok (.iload_n 1, 1) := by decide +kernel
theorem dX10_keepForetold_20 : decode cX10_keepForetold 20 = .ok (.iastore, 1) := by decide +kernel
theorem dX10_keepForetold_21 : decode cX10_keepForetold 21 = .ok (.aload_n 0, 1) := by decide +kernel
theorem dX10_keepForetold_22 : decode cX10_keepForetold 22 = .ok (.getfield 60, 3) := by decide +kernel
theorem dX10_keepForetold_25 : decode cX10_keepForetold 25 = .ok (.aload_n 0, 1) := by decide +kernel
theorem dX10_keepForetold_26 : decode cX10_keepForetold 26 = .ok (.getfield 53, 3) := by decide +kernel
theorem dX10_keepForetold_29 : decode cX10_keepForetold 29 = .ok (.iload_n 2, 1) := by decide +kernel
theorem dX10_keepForetold_30 : decode cX10_keepForetold 30 = .ok (.iastore, 1) := by decide +kernel
theorem dX10_keepForetold_31 : decode cX10_keepForetold 31 = .ok (.aload_n 0, 1) := by decide +kernel
theorem dX10_keepForetold_32 : decode cX10_keepForetold 32 = .ok (.getfield 63, 3) := by decide +kernel
theorem dX10_keepForetold_35 : decode cX10_keepForetold 35 = .ok (.aload_n 0, 1) := by decide +kernel
theorem dX10_keepForetold_36 : decode cX10_keepForetold 36 = .ok (.getfield 53, 3) := by decide +kernel
theorem dX10_keepForetold_39 : decode cX10_keepForetold 39 = .ok (.iload_n 3, 1) := by decide +kernel
theorem dX10_keepForetold_40 : decode cX10_keepForetold 40 = .ok (.iastore, 1) := by decide +kernel
theorem dX10_keepForetold_41 : decode cX10_keepForetold 41 = .ok (.aload_n 0, 1) := by decide +kernel
theorem dX10_keepForetold_42 : decode cX10_keepForetold 42 = .ok (.dup, 1) := by decide +kernel
theorem dX10_keepForetold_43 : decode cX10_keepForetold 43 = .ok (.getfield 53, 3) := by decide +kernel
theorem dX10_keepForetold_46 : decode cX10_keepForetold 46 = .ok (.iconst 1, 1) := by decide +kernel
theorem dX10_keepForetold_47 : decode cX10_keepForetold 47 = .ok (.iadd, 1) := by decide +kernel
theorem dX10_keepForetold_48 : decode cX10_keepForetold 48 = .ok (.putfield 53, 3) := by decide +kernel
theorem dX10_keepForetold_51 : decode cX10_keepForetold 51 = .ok (.aload_n 0, 1) := by decide +kernel
theorem dX10_keepForetold_52 : decode cX10_keepForetold 52 = .ok (.getfield 53, 3) := by decide +kernel
theorem dX10_keepForetold_55 : decode cX10_keepForetold 55 = .ok (.iconst 1, 1) := by decide +kernel
theorem dX10_keepForetold_56 : decode cX10_keepForetold 56 = .ok (.isub, 1) := by decide +kernel
theorem dX10_keepForetold_57 : decode cX10_keepForetold 57 = .ok (.ireturn, 1) := by decide +kernel
theorem dX10_wishNow_0 : decode cX10_wishNow 0 = .ok (.aload_n 1, 1) := by decide +kernel
theorem dX10_wishNow_1 : decode cX10_wishNow 1 = .ok (.ifnonnull 5, 3) := by decide +kernel
theorem dX10_wishNow_4 : decode cX10_wishNow 4 = .ok (.iconst (-1), 1) := by decide +kernel
theorem dX10_wishNow_5 : decode cX10_wishNow 5 = .ok (.ireturn, 1) := by decide +kernel
theorem dX10_wishNow_6 : decode cX10_wishNow 6 = .ok (.aload_n 0, 1) := by decide +kernel
theorem dX10_wishNow_7 : decode cX10_wishNow 7 = .ok (.getfield 32, 3) := by decide +kernel
theorem dX10_wishNow_10 : decode cX10_wishNow 10 = .ok (.aload_n 1, 1) := by decide +kernel
theorem dX10_wishNow_11 : decode cX10_wishNow 11 = .ok (.iload_n 2, 1) := by decide +kernel
theorem dX10_wishNow_12 : decode cX10_wishNow 12 = .ok (.aload_n 0, 1) := by decide +kernel
theorem dX10_wishNow_13 : decode cX10_wishNow 13 = .ok (.getfield 50, 3) := by decide +kernel
theorem dX10_wishNow_16 : decode cX10_wishNow 16 = .ok (.iconst 1, 1) := by decide +kernel
theorem dX10_wishNow_17 : decode cX10_wishNow 17 = .ok (.iadd, 1) := by decide +kernel
theorem dX10_wishNow_18 : decode cX10_wishNow 18 = .ok (.aload_n 0, 1) := by decide +kernel
theorem dX10_wishNow_19 : decode cX10_wishNow 19 = .ok (.getfield 12, 3) := by decide +kernel
theorem dX10_wishNow_22 : decode cX10_wishNow 22 = .ok (.getfield 99, 3) := by decide +kernel
theorem dX10_wishNow_25 : decode cX10_wishNow 25 = .ok (.iload_n 2, 1) := by decide +kernel
theorem dX10_wishNow_26 : decode cX10_wishNow 26 = .ok (.iaload, 1) := by decide +kernel
theorem dX10_wishNow_27 : decode cX10_wishNow 27 = .ok (.aload_n 0, 1) := by decide +kernel
theorem dX10_wishNow_28 : decode cX10_wishNow 28 = .ok (.getfield 12, 3) := by decide +kernel
theorem dX10_wishNow_31 : decode cX10_wishNow 31 = .ok (.getfield 102, 3) := by decide +kernel
theorem dX10_wishNow_34 : decode cX10_wishNow 34 = .ok (.iload_n 2, 1) := by decide +kernel
theorem dX10_wishNow_35 : decode cX10_wishNow 35 = .ok (.iaload, 1) := by decide +kernel
theorem dX10_wishNow_36 : decode cX10_wishNow 36 = .ok (.iconst 0, 1) := by decide +kernel
theorem dX10_wishNow_37 : decode cX10_wishNow 37 = .ok (.invokevirtual 105, 3) := by decide +kernel
theorem dX10_wishNow_40 : decode cX10_wishNow 40 = .ok (.ireturn, 1) := by decide +kernel
theorem dX10_pass_0 : decode cX10_pass 0 = .ok (.aload_n 0, 1) := by decide +kernel
theorem dX10_pass_1 : decode cX10_pass 1 = .ok (.getfield 50, 3) := by decide +kernel
theorem dX10_pass_4 : decode cX10_pass 4 = .ok (.iconst 1, 1) := by decide +kernel
theorem dX10_pass_5 : decode cX10_pass 5 = .ok (.iadd, 1) := by decide +kernel
theorem dX10_pass_6 : decode cX10_pass 6 = .ok (.aload_n 0, 1) := by decide +kernel
theorem dX10_pass_7 : decode cX10_pass 7 = .ok (.getfield 23, 3) := by decide +kernel
theorem dX10_pass_10 : decode cX10_pass 10 = .ok (.getfield 109, 3) := by decide +kernel
theorem dX10_pass_13 : decode cX10_pass 13 = .ok (.if_icmp .lt 4, 3) := by decide +kernel
theorem dX10_pass_16 : decode cX10_pass 16 = .ok (.return_, 1) := by decide +kernel
theorem dX10_pass_17 : decode cX10_pass 17 = .ok (.aload_n 0, 1) := by decide +kernel
theorem dX10_pass_18 : decode cX10_pass 18 = .ok (.getfield 23, 3) := by decide +kernel
theorem dX10_pass_21 : decode cX10_pass 21 = .ok (.aload_n 0, 1) := by decide +kernel
theorem dX10_pass_22 : decode cX10_pass 22 = .ok (.getfield 50, 3) := by decide +kernel
theorem dX10_pass_25 : decode cX10_pass 25 = .ok (.invokevirtual 112, 3) := by decide +kernel
theorem dX10_pass_28 : decode cX10_pass 28 = .ok (.aload_n 0, 1) := by decide +kernel
theorem dX10_pass_29 : decode cX10_pass 29 = .ok (.dup, 1) := by decide +kernel
theorem dX10_pass_30 : decode cX10_pass 30 = .ok (.getfield 50, 3) := by decide +kernel
theorem dX10_pass_33 : decode cX10_pass 33 = .ok (.iconst 1, 1) := by decide +kernel
theorem dX10_pass_34 : decode cX10_pass 34 = .ok (.iadd, 1) := by decide +kernel
theorem dX10_pass_35 : decode cX10_pass 35 = .ok (.putfield 50, 3) := by decide +kernel
theorem dX10_pass_38 : decode cX10_pass 38 = .ok (.iconst 0, 1) := by decide +kernel
theorem dX10_pass_39 : decode cX10_pass 39 = .ok (.istore_n 2, 1) := by decide +kernel
theorem dX10_pass_40 : decode cX10_pass 40 = .ok (.iconst 0, 1) := by decide +kernel
theorem dX10_pass_41 : decode cX10_pass 41 = .ok (.istore_n 3, 1) := by decide +kernel
theorem dX10_pass_42 : decode cX10_pass 42 = .ok (.iload_n 3, 1) := by decide +kernel
theorem dX10_pass_43 : decode cX10_pass 43 = .ok (.aload_n 0, 1) := by decide +kernel
theorem dX10_pass_44 : decode cX10_pass 44 = .ok (.getfield 12, 3) := by decide +kernel
theorem dX10_pass_47 : decode cX10_pass 47 = .ok (.getfield 83, 3) := by decide +kernel
theorem dX10_pass_50 : decode cX10_pass 50 = .ok (.if_icmp .ge 41, 3) := by decide +kernel
theorem dX10_pass_53 : decode cX10_pass 53 = .ok (.aload_n 0, 1) := by decide +kernel
theorem dX10_pass_54 : decode cX10_pass 54 = .ok (.aload_n 1, 1) := by decide +kernel
theorem dX10_pass_55 : decode cX10_pass 55 = .ok (.iload_n 3, 1) := by decide +kernel
theorem dX10_pass_56 : decode cX10_pass 56 = .ok (.invokevirtual 115, 3) := by decide +kernel
theorem dX10_pass_59 : decode cX10_pass 59 = .ok (.istore 4, 2) := by decide +kernel
theorem dX10_pass_61 : decode cX10_pass 61 = .ok (.aload_n 0, 1) := by decide +kernel
theorem dX10_pass_62 : decode cX10_pass 62 = .ok (.getfield 23, 3) := by decide +kernel
theorem dX10_pass_65 : decode cX10_pass 65 = .ok (.getfield 119, 3) := by decide +kernel
theorem dX10_pass_68 : decode cX10_pass 68 = .ok (.aload_n 0, 1) := by decide +kernel
theorem dX10_pass_69 : decode cX10_pass 69 = .ok (.getfield 50, 3) := by decide +kernel
theorem dX10_pass_72 : decode cX10_pass 72 = .ok (.bipush 16, 2) := by decide +kernel
theorem dX10_pass_74 : decode cX10_pass 74 = .ok (.imul, 1) := by decide +kernel
theorem dX10_pass_75 : decode cX10_pass 75 = .ok (.iload_n 3, 1) := by decide +kernel
theorem dX10_pass_76 : decode cX10_pass 76 = .ok (.iadd, 1) := by decide +kernel
theorem dX10_pass_77 : decode cX10_pass 77 = .ok (.iload 4, 2) := by decide +kernel
theorem dX10_pass_79 : decode cX10_pass 79 = .ok (.iastore, 1) := by decide +kernel
theorem dX10_pass_80 : decode cX10_pass 80 = .ok (.iload_n 2, 1) := by decide +kernel
theorem dX10_pass_81 : decode cX10_pass 81 = .ok (.iload 4, 2) := by decide +kernel
theorem dX10_pass_83 : decode cX10_pass 83 = .ok (.iadd, 1) := by decide +kernel
theorem dX10_pass_84 : decode cX10_pass 84 = .ok (.istore_n 2, 1) := by decide +kernel
theorem dX10_pass_85 : decode cX10_pass 85 = .ok (.iinc 3 1, 3) := by decide +kernel
theorem dX10_pass_88 : decode cX10_pass 88 = .ok (.goto (-46), 3) := by decide +kernel
theorem dX10_pass_91 : decode cX10_pass 91 = .ok (.aload_n 0, 1) := by decide +kernel
theorem dX10_pass_92 : decode cX10_pass 92 = .ok (.getfield 23, 3) := by decide +kernel
theorem dX10_pass_95 : decode cX10_pass 95 = .ok (.getfield 86, 3) := by decide +kernel
theorem dX10_pass_98 : decode cX10_pass 98 = .ok (.aload_n 0, 1) := by decide +kernel
theorem dX10_pass_99 : decode cX10_pass 99 = .ok (.getfield 50, 3) := by decide +kernel
theorem dX10_pass_102 : decode cX10_pass 102 = .ok (.iload_n 2, 1) := by decide +kernel
theorem dX10_pass_103 : decode cX10_pass 103 = .ok (.iastore, 1) := by decide +kernel
theorem dX10_pass_104 : decode cX10_pass 104 = .ok (.return_, 1) := by decide +kernel
theorem dX10_dress_0 : decode cX10_dress 0 = .ok (.aload_n 0, 1) := by decide +kernel
theorem dX10_dress_1 : decode cX10_dress 1 = .ok (.aload_n 0, 1) := by decide +kernel
theorem dX10_dress_2 : decode cX10_dress 2 = .ok (.getfield 46, 3) := by decide +kernel
theorem dX10_dress_5 : decode cX10_dress 5 = .ok (.ldc2_w 122, 3) := by decide +kernel
theorem dX10_dress_8 : decode cX10_dress 8 = .ok (.lmul, 1) := by decide +kernel
theorem dX10_dress_9 : decode cX10_dress 9 = .ok (.ldc2_w 124, 3) := by decide +kernel
theorem dX10_dress_12 : decode cX10_dress 12 = .ok (.ladd, 1) := by decide +kernel
theorem dX10_dress_13 : decode cX10_dress 13 = .ok (.putfield 46, 3) := by decide +kernel
theorem dX10_dress_16 : decode cX10_dress 16 = .ok (.aload_n 0, 1) := by decide +kernel
theorem dX10_dress_17 : decode cX10_dress 17 = .ok (.getfield 46, 3) := by decide +kernel
theorem dX10_dress_20 : decode cX10_dress 20 = .ok (.bipush 33, 2) := by decide +kernel
theorem dX10_dress_22 : decode cX10_dress 22 = .ok (.lushr, 1) := by decide +kernel
theorem dX10_dress_23 : decode cX10_dress 23 = .ok (.ldc2_w 126, 3) := by decide +kernel
theorem dX10_dress_26 : decode cX10_dress 26 = .ok (.lrem, 1) := by decide +kernel
theorem dX10_dress_27 : decode cX10_dress 27 = .ok (.l2i, 1) := by decide +kernel
theorem dX10_dress_28 : decode cX10_dress 28 = .ok (.istore_n 3, 1) := by decide +kernel
theorem dX10_dress_29 : decode cX10_dress 29 = .ok (.aload_n 0, 1) := by decide +kernel
theorem dX10_dress_30 : decode cX10_dress 30 = .ok (.getfield 12, 3) := by decide +kernel
theorem dX10_dress_33 : decode cX10_dress 33 = .ok (.getfield 99, 3) := by decide +kernel
theorem dX10_dress_36 : decode cX10_dress 36 = .ok (.iload_n 2, 1) := by decide +kernel
theorem dX10_dress_37 : decode cX10_dress 37 = .ok (.sipush 9999, 3) := by decide +kernel
theorem dX10_dress_40 : decode cX10_dress 40 = .ok (.aload_n 0, 1) := by decide +kernel
theorem dX10_dress_41 : decode cX10_dress 41 = .ok (.getfield 12, 3) := by decide +kernel
theorem dX10_dress_44 : decode cX10_dress 44 = .ok (.getfield 99, 3) := by decide +kernel
theorem dX10_dress_47 : decode cX10_dress 47 = .ok (.iload_n 2, 1) := by decide +kernel
theorem dX10_dress_48 : decode cX10_dress 48 = .ok (.iaload, 1) := by decide +kernel
theorem dX10_dress_49 : decode cX10_dress 49 = .ok (.aload_n 0, 1) := by decide +kernel
theorem dX10_dress_50 : decode cX10_dress 50 = .ok (.getfield 12, 3) := by decide +kernel
theorem dX10_dress_53 : decode cX10_dress 53 = .ok (.getfield 128, 3) := by decide +kernel
theorem dX10_dress_56 : decode cX10_dress 56 = .ok (.iload_n 2, 1) := by decide +kernel
theorem dX10_dress_57 : decode cX10_dress 57 = .ok (.iaload, 1) := by decide +kernel
theorem dX10_dress_58 : decode cX10_dress 58 = .ok (.iadd, 1) := by decide +kernel
theorem dX10_dress_59 : decode cX10_dress 59 = .ok (.invokestatic 131, 3) := by decide +kernel
theorem dX10_dress_62 : decode cX10_dress 62 = .ok (.iastore, 1) := by decide +kernel
theorem dX10_dress_63 : decode cX10_dress 63 = .ok (.aload_n 0, 1) := by decide +kernel
theorem dX10_dress_64 : decode cX10_dress 64 = .ok (.getfield 23, 3) := by decide +kernel
theorem dX10_dress_67 : decode cX10_dress 67 = .ok (.iload_n 2, 1) := by decide +kernel
theorem dX10_dress_68 : decode cX10_dress 68 = .ok (.aload_n 0, 1) := by decide +kernel
theorem dX10_dress_69 : decode cX10_dress 69 = .ok (.getfield 50, 3) := by decide +kernel
theorem dX10_dress_72 : decode cX10_dress 72 = .ok (.aload_n 0, 1) := by decide +kernel
theorem dX10_dress_73 : decode cX10_dress 73 = .ok (.getfield 12, 3) := by decide +kernel
theorem dX10_dress_76 : decode cX10_dress 76 = .ok (.getfield 99, 3) := by decide +kernel
theorem dX10_dress_79 : decode cX10_dress 79 = .ok (.iload_n 2, 1) := by decide +kernel
theorem dX10_dress_80 : decode cX10_dress 80 = .ok (.iaload, 1) := by decide +kernel
theorem dX10_dress_81 : decode cX10_dress 81 = .ok (.aload_n 0, 1) := by decide +kernel
theorem dX10_dress_82 : decode cX10_dress 82 = .ok (.getfield 12, 3) := by decide +kernel
theorem dX10_dress_85 : decode cX10_dress 85 = .ok (.getfield 102, 3) := by decide +kernel
theorem dX10_dress_88 : decode cX10_dress 88 = .ok (.iload_n 2, 1) := by decide +kernel
theorem dX10_dress_89 : decode cX10_dress 89 = .ok (.iaload, 1) := by decide +kernel
theorem dX10_dress_90 : decode cX10_dress 90 = .ok (.iload_n 3, 1) := by decide +kernel
theorem dX10_dress_91 : decode cX10_dress 91 = .ok (.invokevirtual 136, 3) := by decide +kernel
theorem dX10_dress_94 : decode cX10_dress 94 = .ok (.aload_n 0, 1) := by decide +kernel
theorem dX10_dress_95 : decode cX10_dress 95 = .ok (.getfield 23, 3) := by decide +kernel
theorem dX10_dress_98 : decode cX10_dress 98 = .ok (.iload_n 2, 1) := by decide +kernel
theorem dX10_dress_99 : decode cX10_dress 99 = .ok (.aload_n 0, 1) := by decide +kernel
theorem dX10_dress_100 : decode cX10_dress 100 = .ok (.getfield 50, 3) := by decide +kernel
theorem dX10_dress_103 : decode cX10_dress 103 = .ok (.iconst 1, 1) := by decide +kernel
theorem dX10_dress_104 : decode cX10_dress 104 = .ok (.isub, 1) := by decide +kernel
theorem dX10_dress_105 : decode cX10_dress 105 = .ok (.invokevirtual 89, 3) := by decide +kernel
theorem dX10_dress_108 : decode cX10_dress 108 = .ok (.istore 4, 2) := by decide +kernel
theorem dX10_dress_110 : decode cX10_dress 110 = .ok (.aload_n 0, 1) := by decide +kernel
theorem dX10_dress_111 : decode cX10_dress 111 = .ok (.getfield 32, 3) := by decide +kernel
theorem dX10_dress_114 : decode cX10_dress 114 = .ok (.aload_n 1, 1) := by decide +kernel
theorem dX10_dress_115 : decode cX10_dress 115 = .ok (.iload_n 2, 1) := by decide +kernel
theorem dX10_dress_116 : decode cX10_dress 116 = .ok (.aload_n 0, 1) := by decide +kernel
theorem dX10_dress_117 : decode cX10_dress 117 = .ok (.getfield 50, 3) := by decide +kernel
theorem dX10_dress_120 : decode cX10_dress 120 = .ok (.aload_n 0, 1) := by decide +kernel
theorem dX10_dress_121 : decode cX10_dress 121 = .ok (.getfield 12, 3) := by decide +kernel
theorem dX10_dress_124 : decode cX10_dress 124 = .ok (.getfield 99, 3) := by decide +kernel
theorem dX10_dress_127 : decode cX10_dress 127 = .ok (.iload_n 2, 1) := by decide +kernel
theorem dX10_dress_128 : decode cX10_dress 128 = .ok (.iaload, 1) := by decide +kernel
theorem dX10_dress_129 : decode cX10_dress 129 = .ok (.aload_n 0, 1) := by decide +kernel
theorem dX10_dress_130 : decode cX10_dress 130 = .ok (.getfield 12, 3) := by decide +kernel
theorem dX10_dress_133 : decode cX10_dress 133 = .ok (.getfield 102, 3) := by decide +kernel
theorem dX10_dress_136 : decode cX10_dress 136 = .ok (.iload_n 2, 1) := by decide +kernel
theorem dX10_dress_137 : decode cX10_dress 137 = .ok (.iaload, 1) := by decide +kernel
theorem dX10_dress_138 : decode cX10_dress 138 = .ok (.iload_n 3, 1) := by decide +kernel
theorem dX10_dress_139 : decode cX10_dress 139 = .ok (.invokevirtual 105, 3) := by decide +kernel
theorem dX10_dress_142 : decode cX10_dress 142 = .ok (.istore 5, 2) := by decide +kernel
theorem dX10_dress_144 : decode cX10_dress 144 = .ok (.iload 5, 2) := by decide +kernel
theorem dX10_dress_146 : decode cX10_dress 146 = .ok (.iload 4, 2) := by decide +kernel
theorem dX10_dress_148 : decode cX10_dress 148 = .ok (.if_icmp .ne 16, 3) := by decide +kernel
theorem dX10_dress_151 : decode cX10_dress 151 = .ok (.aload_n 0, 1) := by decide +kernel
theorem dX10_dress_152 : decode cX10_dress 152 = .ok (.getfield 12, 3) := by decide +kernel
theorem dX10_dress_155 : decode cX10_dress 155 = .ok (.iload_n 2, 1) := by decide +kernel
theorem dX10_dress_156 : decode cX10_dress 156 = .ok (.bipush 12, 2) := by decide +kernel
theorem dX10_dress_158 : decode cX10_dress 158 = .ok (.invokevirtual 140, 3) := by decide +kernel
theorem dX10_dress_161 : decode cX10_dress 161 = .ok (.goto 69, 3) := by decide +kernel
theorem dX10_dress_164 : decode cX10_dress 164 = .ok (.aload_n 0, 1) := by decide +kernel
theorem dX10_dress_165 : decode cX10_dress 165 = .ok (.getfield 12, 3) := by decide +kernel
theorem dX10_dress_168 : decode cX10_dress 168 = .ok (.iload_n 2, 1) := by decide +kernel
theorem dX10_dress_169 : decode cX10_dress 169 = .ok (.aload_n 0, 1) := by decide +kernel
theorem dX10_dress_170 : decode cX10_dress 170 = .ok (.getfield 32, 3) := by decide +kernel
theorem dX10_dress_173 : decode cX10_dress 173 = .ok (.getfield 144, 3) := by decide +kernel
theorem dX10_dress_176 : decode cX10_dress 176 = .ok (.ifCond .ne 8, 3) := by decide +kernel
theorem dX10_dress_179 : decode cX10_dress 179 = .ok (.bipush 10, 2) := by decide +kernel
theorem dX10_dress_181 : decode cX10_dress 181 = .ok (.goto 5, 3) := by decide +kernel
theorem dX10_dress_184 : decode cX10_dress 184 = .ok (.bipush 11, 2) := by decide +kernel
theorem dX10_dress_186 : decode cX10_dress 186 = .ok (.invokevirtual 140, 3) := by decide +kernel
theorem dX10_dress_189 : decode cX10_dress 189 = .ok (.aload_n 0, 1) := by decide +kernel
theorem dX10_dress_190 : decode cX10_dress 190 = .ok (.iload_n 2, 1) := by decide +kernel
theorem dX10_dress_191 : decode cX10_dress 191 = .ok (.iload 5, 2) := by decide +kernel
theorem dX10_dress_193 : decode cX10_dress 193 = .ok (.iload 4, 2) := by decide +kernel
theorem dX10_dress_195 : decode cX10_dress 195 = .ok (.isub, 1) := by decide +kernel
theorem dX10_dress_196 : decode cX10_dress 196 = .ok (.invokestatic 147, 3) := by decide +kernel
theorem dX10_dress_199 : decode cX10_dress 199 = .ok (.aload_n 0, 1) := by decide +kernel
theorem dX10_dress_200 : decode cX10_dress 200 = .ok (.getfield 40, 3) := by decide +kernel
theorem dX10_dress_203 : decode cX10_dress 203 = .ok (.if_icmp .gt 7, 3) := by decide +kernel
theorem dX10_dress_206 : decode cX10_dress 206 = .ok (.iconst 1, 1) := by decide +kernel
theorem dX10_dress_207 : decode cX10_dress 207 = .ok (.goto 4, 3) := by decide +kernel
theorem dX10_dress_210 : decode cX10_dress 210 = .ok (.iconst 0, 1) := by decide +kernel
theorem dX10_dress_211 : decode cX10_dress 211 = .ok (.invokevirtual 150, 3) := by decide +kernel
theorem dX10_dress_214 : decode cX10_dress 214 = .ok (.ifCond .eq 16, 3) := by decide +kernel
theorem dX10_dress_217 : decode cX10_dress 217 = .ok (.aload_n 0, 1) := by decide +kernel
theorem dX10_dress_218 : decode cX10_dress 218 = .ok (.getfield 12, 3) := by decide +kernel
theorem dX10_dress_221 : decode cX10_dress 221 = .ok (.getfield 102, 3) := by decide +kernel
theorem dX10_dress_224 : decode cX10_dress 224 = .ok (.iload_n 2, 1) := by decide +kernel
theorem dX10_dress_225 : decode cX10_dress 225 = .ok (.iconst 0, 1) := by decide +kernel
theorem dX10_dress_226 : decode cX10_dress 226 = .ok (.iastore, 1) := by decide +kernel
theorem dX10_dress_227 : decode cX10_dress 227 = .ok (.iload 5, 2) := by decide +kernel
theorem dX10_dress_229 : decode cX10_dress 229 = .ok (.ireturn, 1) := by decide +kernel
theorem dX10_dress_230 : decode cX10_dress 230 = .ok (.aload_n 0, 1) := by decide +kernel
theorem dX10_dress_231 : decode cX10_dress 231 = .ok (.getfield 12, 3) := by decide +kernel
theorem dX10_dress_234 : decode cX10_dress 234 = .ok (.getfield 102, 3) := by decide +kernel
theorem dX10_dress_237 : decode cX10_dress 237 = .ok (.iload_n 2, 1) := by decide +kernel
theorem dX10_dress_238 : decode cX10_dress 238 = .ok (.dup2, 1) := by decide +kernel
theorem dX10_dress_239 : decode cX10_dress 239 = .ok (.iaload, 1) := by decide +kernel
theorem dX10_dress_240 : decode cX10_dress 240 = .ok (.iconst 1, 1) := by decide +kernel
theorem dX10_dress_241 : decode cX10_dress 241 = .ok (.iadd, 1) := by decide +kernel
theorem dX10_dress_242 : decode cX10_dress 242 = .ok (.iastore, 1) := by decide +kernel
theorem dX10_dress_243 : decode cX10_dress 243 = .ok (.iload 4, 2) := by decide +kernel
theorem dX10_dress_245 : decode cX10_dress 245 = .ok (.ireturn, 1) := by decide +kernel
theorem dX10_pays_0 : decode cX10_pays 0 = .ok (.iload_n 2, 1) := by decide +kernel
theorem dX10_pays_1 : decode cX10_pays 1 = .ok (.ifCond .eq 10, 3) := by decide +kernel
theorem dX10_pays_4 : decode cX10_pays 4 = .ok (.aload_n 0, 1) := by decide +kernel
theorem dX10_pays_5 : decode cX10_pays 5 = .ok (.getfield 43, 3) := by decide +kernel
theorem dX10_pays_8 : decode cX10_pays 8 = .ok (.goto 7, 3) := by decide +kernel
theorem dX10_pays_11 : decode cX10_pays 11 = .ok (.aload_n 0, 1) := by decide +kernel
theorem dX10_pays_12 : decode cX10_pays 12 = .ok (.getfield 36, 3) := by decide +kernel
theorem dX10_pays_15 : decode cX10_pays 15 = .ok (.istore_n 3, 1) := by decide +kernel
theorem dX10_pays_16 : decode cX10_pays 16 = .ok (.aload_n 0, 1) := by decide +kernel
theorem dX10_pays_17 : decode cX10_pays 17 = .ok (.getfield 12, 3) := by decide +kernel
theorem dX10_pays_20 : decode cX10_pays 20 = .ok (.getfield 99, 3) := by decide +kernel
theorem dX10_pays_23 : decode cX10_pays 23 = .ok (.iload_n 1, 1) := by decide +kernel
theorem dX10_pays_24 : decode cX10_pays 24 = .ok (.iaload, 1) := by decide +kernel
theorem dX10_pays_25 : decode cX10_pays 25 = .ok (.iload_n 3, 1) := by decide +kernel
theorem dX10_pays_26 : decode cX10_pays 26 = .ok (.if_icmp .ge 15, 3) := by decide +kernel
theorem dX10_pays_29 : decode cX10_pays 29 = .ok (.aload_n 0, 1) := by decide +kernel
theorem dX10_pays_30 : decode cX10_pays 30 = .ok (.getfield 12, 3) := by decide +kernel
theorem dX10_pays_33 : decode cX10_pays 33 = .ok (.iload_n 1, 1) := by decide +kernel
theorem dX10_pays_34 : decode cX10_pays 34 = .ok (.bipush 13, 2) := by decide +kernel
theorem dX10_pays_36 : decode cX10_pays 36 = .ok (.invokevirtual 140, 3) := by decide +kernel
theorem dX10_pays_39 : decode cX10_pays 39 = .ok (.iconst 0, 1) := by decide +kernel
theorem dX10_pays_40 : decode cX10_pays 40 = .ok (.ireturn, 1) := by decide +kernel
theorem dX10_pays_41 : decode cX10_pays 41 = .ok (.aload_n 0, 1) := by decide +kernel
theorem dX10_pays_42 : decode cX10_pays 42 = .ok (.getfield 12, 3) := by decide +kernel
theorem dX10_pays_45 : decode cX10_pays 45 = .ok (.getfield 99, 3) := by decide +kernel
theorem dX10_pays_48 : decode cX10_pays 48 = .ok (.iload_n 1, 1) := by decide +kernel
theorem dX10_pays_49 : decode cX10_pays 49 = .ok (.dup2, 1) := by decide +kernel
theorem dX10_pays_50 : decode cX10_pays 50 = .ok (.iaload, 1) := by decide +kernel
theorem dX10_pays_51 : decode cX10_pays 51 = .ok (.iload_n 3, 1) := by decide +kernel
theorem dX10_pays_52 : decode cX10_pays 52 = .ok (.isub, 1) := by decide +kernel
theorem dX10_pays_53 : decode cX10_pays 53 = .ok (.iastore, 1) := by decide +kernel
theorem dX10_pays_54 : decode cX10_pays 54 = .ok (.aload_n 0, 1) := by decide +kernel
theorem dX10_pays_55 : decode cX10_pays 55 = .ok (.getfield 12, 3) := by decide +kernel
theorem dX10_pays_58 : decode cX10_pays 58 = .ok (.iload_n 1, 1) := by decide +kernel
theorem dX10_pays_59 : decode cX10_pays 59 = .ok (.iload_n 2, 1) := by decide +kernel
theorem dX10_pays_60 : decode cX10_pays 60 = .ok (.ifCond .eq 8, 3) := by decide +kernel
theorem dX10_pays_63 : decode cX10_pays 63 = .ok (.bipush 14, 2) := by decide +kernel
theorem dX10_pays_65 : decode cX10_pays 65 = .ok (.goto 5, 3) := by decide +kernel
theorem dX10_pays_68 : decode cX10_pays 68 = .ok (.bipush 15, 2) := by decide +kernel
theorem dX10_pays_70 : decode cX10_pays 70 = .ok (.invokevirtual 140, 3) := by decide +kernel
theorem dX10_pays_73 : decode cX10_pays 73 = .ok (.iconst 1, 1) := by decide +kernel
theorem dX10_pays_74 : decode cX10_pays 74 = .ok (.ireturn, 1) := by decide +kernel
theorem dX11_init_0 : decode cX11_init 0 = .ok (.aload_n 0, 1) := by decide +kernel
theorem dX11_init_1 : decode cX11_init 1 = .ok (.invokespecial 1, 3) := by decide +kernel
theorem dX11_init_4 : decode cX11_init 4 = .ok (.aload_n 0, 1) := by decide +kernel
theorem dX11_init_5 : decode cX11_init 5 = .ok (.sipush 700, 3) := by decide +kernel
theorem dX11_init_8 : decode cX11_init 8 = .ok (.newarray .byte, 2) := by decide +kernel
theorem dX11_init_10 : decode cX11_init 10 = .ok (.putfield 9, 3) := by decide +kernel
theorem dX11_init_13 : decode cX11_init 13 = .ok (.aload_n 0, 1) := by decide +kernel
theorem dX11_init_14 : decode cX11_init 14 = .ok (.iconst 0, 1) := by decide +kernel
theorem dX11_init_15 : decode cX11_init 15 = .ok (.putfield 13, 3) := by decide +kernel
theorem dX11_init_18 : decode cX11_init 18 = .ok (.aload_n 0, 1) := by decide +kernel
theorem dX11_init_19 : decode cX11_init 19 = .ok (.new 17, 3) := by decide +kernel
theorem dX11_init_22 : decode cX11_init 22 = .ok (.dup, 1) := by decide +kernel
theorem dX11_init_23 : decode cX11_init 23 = .ok (.aload_n 0, 1) := by decide +kernel
theorem dX11_init_24 : decode cX11_init 24 = .ok (.getfield 9, 3) := by decide +kernel
theorem dX11_init_27 : decode cX11_init 27 = .ok (.invokespecial 19, 3) := by decide +kernel
theorem dX11_init_30 : decode cX11_init 30 = .ok (.putfield 22, 3) := by decide +kernel
theorem dX11_init_33 : decode cX11_init 33 = .ok (.aload_n 0, 1) := by decide +kernel
theorem dX11_init_34 : decode cX11_init 34 = .ok (.iconst 5, 1) := by decide +kernel
theorem dX11_init_35 : decode cX11_init 35 = .ok (.anewarray 26, 3) := by decide +kernel
theorem dX11_init_38 : decode cX11_init 38 = .ok (.putfield 28, 3) := by decide +kernel
theorem dX11_init_41 : decode cX11_init 41 = .ok (.aload_n 0, 1) := by decide +kernel
theorem dX11_init_42 : decode cX11_init 42 = .ok (.iconst 0, 1) := by decide +kernel
theorem dX11_init_43 : decode cX11_init 43 = .ok (.putfield 32, 3) := by decide +kernel
theorem dX11_init_46 : decode cX11_init 46 = .ok (.aload_n 0, 1) := by decide +kernel
theorem dX11_init_47 : decode cX11_init 47 = .ok (.iconst (-1), 1) := by decide +kernel
theorem dX11_init_48 : decode cX11_init 48 = .ok (.putfield 35, 3) := by decide +kernel
theorem dX11_init_51 : decode cX11_init 51 = .ok (.aload_n 0, 1) := by decide +kernel
theorem dX11_init_52 : decode cX11_init 52 = .ok (.iconst (-1), 1) := by decide +kernel
theorem dX11_init_53 : decode cX11_init 53 = .ok (.putfield 38, 3) := by decide +kernel
theorem dX11_init_56 : decode cX11_init 56 = .ok (.aload_n 0, 1) := by decide +kernel
theorem dX11_init_57 : decode cX11_init 57 = .ok (.new 41, 3) := by decide +kernel
theorem dX11_init_60 : decode cX11_init 60 = .ok (.dup, 1) := by decide +kernel
theorem dX11_init_61 : decode cX11_init 61 = .ok (.sipush 301, 3) := by decide +kernel
theorem dX11_init_64 : decode cX11_init 64 = .ok (.invokespecial 43, 3) := by decide +kernel
theorem dX11_init_67 : decode cX11_init 67 = .ok (.putfield 46, 3) := by decide +kernel
theorem dX11_init_70 : decode cX11_init 70 = .ok (.aload_n 0, 1) := by decide +kernel
theorem dX11_init_71 : decode cX11_init 71 = .ok (.new 50, 3) := by decide +kernel
theorem dX11_init_74 : decode cX11_init 74 = .ok (.dup, 1) := by decide +kernel
theorem dX11_init_75 : decode cX11_init 75 = .ok (.aload_n 0, 1) := by decide +kernel
theorem dX11_init_76 : decode cX11_init 76 = .ok (.getfield 46, 3) := by decide +kernel
theorem dX11_init_79 : decode cX11_init 79 = .ok (.invokespecial 52, 3) := by decide +kernel
theorem dX11_init_82 : decode cX11_init 82 = .ok (.putfield 55, 3) := by decide +kernel
theorem dX11_init_85 : decode cX11_init 85 = .ok (.aload_n 0, 1) := by decide +kernel
theorem dX11_init_86 : decode cX11_init 86 = .ok (.new 59, 3) := by decide +kernel
theorem dX11_init_89 : decode cX11_init 89 = .ok (.dup, 1) := by decide +kernel
theorem dX11_init_90 : decode cX11_init 90 = .ok (.aload_n 0, 1) := by decide +kernel
theorem dX11_init_91 : decode cX11_init 91 = .ok (.getfield 46, 3) := by decide +kernel
theorem dX11_init_94 : decode cX11_init 94 = .ok (.invokespecial 61, 3) := by decide +kernel
theorem dX11_init_97 : decode cX11_init 97 = .ok (.putfield 62, 3) := by decide +kernel
theorem dX11_init_100 : decode cX11_init 100 = .ok (.aload_n 0, 1) := by decide +kernel
theorem dX11_init_101 : decode cX11_init 101 = .ok (.new 66, 3) := by decide +kernel
theorem dX11_init_104 : decode cX11_init 104 = .ok (.dup, 1) := by decide +kernel
theorem dX11_init_105 : decode cX11_init 105 = .ok (.aload_n 0, 1) := by decide +kernel
theorem dX11_init_106 : decode cX11_init 106 = .ok (.getfield 46, 3) := by decide +kernel
theorem dX11_init_109 : decode cX11_init 109 = .ok (.invokespecial 68, 3) := by decide +kernel
theorem dX11_init_112 : decode cX11_init 112 = .ok (.putfield 69, 3) := by decide +kernel
theorem dX11_init_115 : decode cX11_init 115 = .ok (.aload_n 0, 1) := by decide +kernel
theorem dX11_init_116 : decode cX11_init 116 = .ok (.new 73, 3) := by decide +kernel
theorem dX11_init_119 : decode cX11_init 119 = .ok (.dup, 1) := by decide +kernel
theorem dX11_init_120 : decode cX11_init 120 = .ok (.aload_n 0, 1) := by decide +kernel
theorem dX11_init_121 : decode cX11_init 121 = .ok (.getfield 46, 3) := by decide +kernel
theorem dX11_init_124 : decode cX11_init 124 = .ok (.invokespecial 75, 3) := by decide +kernel
theorem dX11_init_127 : decode cX11_init 127 = .ok (.putfield 76, 3) := by decide +kernel
theorem dX11_init_130 : decode cX11_init 130 = .ok (.aload_n 0, 1) := by decide +kernel
theorem dX11_init_131 : decode cX11_init 131 = .ok (.new 80, 3) := by decide +kernel
theorem dX11_init_134 : decode cX11_init 134 = .ok (.dup, 1) := by decide +kernel
theorem dX11_init_135 : decode cX11_init 135 = .ok (.aload_n 0, 1) := by decide +kernel
theorem dX11_init_136 : decode cX11_init 136 = .ok (.getfield 46, 3) := by decide +kernel
theorem dX11_init_139 : decode cX11_init 139 = .ok (.invokespecial 82, 3) := by decide +kernel
theorem dX11_init_142 : decode cX11_init 142 = .ok (.putfield 83, 3) := by decide +kernel
theorem dX11_init_145 : decode cX11_init 145 = .ok (.aload_n 0, 1) := by decide +kernel
theorem dX11_init_146 : decode cX11_init 146 = .ok (.iconst 3, 1) := by decide +kernel
theorem dX11_init_147 : decode cX11_init 147 = .ok (.anewarray 41, 3) := by decide +kernel
theorem dX11_init_150 : decode cX11_init 150 = .ok (.putfield 87, 3) := by decide +kernel
theorem dX11_init_153 : decode cX11_init 153 = .ok (.aload_n 0, 1) := by decide +kernel
theorem dX11_init_154 : decode cX11_init 154 = .ok (.iconst 0, 1) := by decide +kernel
theorem dX11_init_155 : decode cX11_init 155 = .ok (.putfield 91, 3) := by decide +kernel
theorem dX11_init_158 : decode cX11_init 158 = .ok (.return_, 1) := by decide +kernel
theorem dX11_person_0 : decode cX11_person 0 = .ok (.iload_n 1, 1) := by decide +kernel
theorem dX11_person_1 : decode cX11_person 1 = .ok (.iconst 0, 1) := by decide +kernel
theorem dX11_person_2 : decode cX11_person 2 = .ok (.bipush 9, 2) := by decide +kernel
theorem dX11_person_4 : decode cX11_person 4 = .ok (.invokestatic 94, 3) := by decide +kernel
theorem dX11_person_7 : decode cX11_person 7 = .ok (.ifCond .eq 27, 3) := by decide +kernel
theorem dX11_person_10 : decode cX11_person 10 = .ok (.iload_n 2, 1) := by decide +kernel
theorem dX11_person_11 : decode cX11_person 11 = .ok (.iconst 0, 1) := by decide +kernel
theorem dX11_person_12 : decode cX11_person 12 = .ok (.bipush 99, 2) := by decide +kernel
theorem dX11_person_14 : decode cX11_person 14 = .ok (.invokestatic 94, 3) := by decide +kernel
theorem dX11_person_17 : decode cX11_person 17 = .ok (.ifCond .eq 17, 3) := by decide +kernel
theorem dX11_person_20 : decode cX11_person 20 = .ok (.iload_n 3, 1) := by decide +kernel
theorem dX11_person_21 : decode cX11_person 21 = .ok (.iconst 0, 1) := by decide +kernel
theorem dX11_person_22 : decode cX11_person 22 = .ok (.bipush 60, 2) := by decide +kernel
theorem dX11_person_24 : decode cX11_person 24 = .ok (.invokestatic 94, 3) := by decide +kernel
theorem dX11_person_27 : decode cX11_person 27 = .ok (.ifCond .eq 7, 3) := by decide +kernel
theorem dX11_person_30 : decode cX11_person 30 = .ok (.iconst 1, 1) := by decide +kernel
theorem dX11_person_31 : decode cX11_person 31 = .ok (.goto 4, 3) := by decide +kernel
theorem dX11_person_34 : decode cX11_person 34 = .ok (.iconst 0, 1) := by decide +kernel
theorem dX11_person_35 : decode cX11_person 35 = .ok (.istore 4, 2) := by decide +kernel
theorem dX11_person_37 : decode cX11_person 37 = .ok (.iload 4, 2) := by decide +kernel
theorem dX11_person_39 : decode cX11_person 39 = .ok (.ifCond .eq 13, 3) := by decide +kernel
theorem dX11_person_42 : decode cX11_person 42 = .ok (.aload_n 0, 1) := by decide +kernel
theorem dX11_person_43 : decode cX11_person 43 = .ok (.getfield 46, 3) := by decide +kernel
theorem dX11_person_46 : decode cX11_person 46 = .ok (.getfield 98, 3) := by decide +kernel
theorem dX11_person_49 : decode cX11_person 49 = .ok (.ifCond .eq 5, 3) := by decide +kernel
theorem dX11_person_52 : decode cX11_person 52 = .ok (.iconst (-1), 1) := by decide +kernel
theorem dX11_person_53 : decode cX11_person 53 = .ok (.ireturn, 1) := by decide +kernel
theorem dX11_person_54 : decode cX11_person 54 = .ok (.aload_n 0, 1) := by decide +kernel
theorem dX11_person_55 : decode cX11_person 55 = .ok (.getfield 46, 3) := by decide +kernel
theorem dX11_person_58 : decode cX11_person 58 = .ok (.getfield 101, 3) := by decide +kernel
theorem dX11_person_61 : decode cX11_person 61 = .ok (.iload_n 1, 1) := by decide +kernel
theorem dX11_person_62 : decode cX11_person 62 = .ok (.iload_n 2, 1) := by decide +kernel
theorem dX11_person_63 : decode cX11_person 63 = .ok (.invokevirtual 105, 3) := by decide +kernel
theorem dX11_person_66 : decode cX11_person 66 = .ok (.istore 5, 2) := by decide +kernel
theorem dX11_person_68 : decode cX11_person 68 = .ok (.iload 5, 2) := by decide +kernel
theorem dX11_person_70 : decode cX11_person 70 = .ok (.iconst (-1), 1) := by decide +kernel
theorem dX11_person_71 : decode cX11_person 71 = .ok (.if_icmp .eq 33, 3) := by decide +kernel
theorem dX11_person_74 : decode cX11_person 74 = .ok (.aload_n 0, 1) := by decide +kernel
theorem dX11_person_75 : decode cX11_person 75 = .ok (.getfield 46, 3) := by decide +kernel
theorem dX11_person_78 : decode cX11_person 78 = .ok (.getfield 111, 3) := by decide +kernel
theorem dX11_person_81 : decode cX11_person 81 = .ok (.getfield 115, 3) := by decide +kernel
theorem dX11_person_84 : decode cX11_person 84 = .ok (.iload 5, 2) := by decide +kernel
theorem dX11_person_86 : decode cX11_person 86 = .ok (.iload_n 3, 1) := by decide +kernel
theorem dX11_person_87 : decode cX11_person 87 = .ok (.iastore, 1) := by decide +kernel
theorem dX11_person_88 : decode cX11_person 88 = .ok (.aload_n 0, 1) := by decide +kernel
theorem dX11_person_89 : decode cX11_person 89 = .ok (.getfield 46, 3) := by decide +kernel
theorem dX11_person_92 : decode cX11_person 92 = .ok (.getfield 111, 3) := by decide +kernel
theorem dX11_person_95 : decode cX11_person 95 = .ok (.getfield 121, 3) := by decide +kernel
theorem dX11_person_98 : decode cX11_person 98 = .ok (.iconst 0, 1) := by decide +kernel
theorem dX11_person_99 : decode cX11_person 99 = .ok (.dup2, 1) := by decide +kernel
theorem dX11_person_100 : decode cX11_person 100 = .ok (.iaload, 1) := by decide +kernel
theorem dX11_person_101 : decode cX11_person 101 = .ok (.iload_n 3, 1) := by decide +kernel
theorem dX11_person_102 : decode cX11_person 102 = .ok (.iadd, 1) := by decide +kernel
theorem dX11_person_103 : decode cX11_person 103 = .ok (.iastore, 1) := by decide +kernel
theorem dX11_person_104 : decode cX11_person 104 = .ok (.iload 5, 2) := by decide +kernel
theorem dX11_person_106 : decode cX11_person 106 = .ok (.ireturn, 1) := by decide +kernel
theorem dX11_sees_0 : decode cX11_sees 0 = .ok (.aload_n 0, 1) := by decide +kernel
theorem dX11_sees_1 : decode cX11_sees 1 = .ok (.getfield 46, 3) := by decide +kernel
theorem dX11_sees_4 : decode cX11_sees 4 = .ok (.getfield 101, 3) := by decide +kernel
theorem dX11_sees_7 : decode cX11_sees 7 = .ok (.iload_n 1, 1) := by decide +kernel
theorem dX11_sees_8 : decode cX11_sees 8 = .ok (.invokevirtual 124, 3) := by decide +kernel
theorem dX11_sees_11 : decode cX11_sees 11 = .ok (.ifCond .eq 22, 3) := by decide +kernel
theorem dX11_sees_14 : decode cX11_sees 14 = .ok (.aload_n 0, 1) := by decide +kernel
theorem dX11_sees_15 : decode cX11_sees 15 = .ok (.getfield 46, 3) := by decide +kernel
theorem dX11_sees_18 : decode cX11_sees 18 = .ok (.getfield 101, 3) := by decide +kernel
theorem dX11_sees_21 : decode cX11_sees 21 = .ok (.iload_n 2, 1) := by decide +kernel
theorem dX11_sees_22 : decode cX11_sees 22 = .ok (.invokevirtual 124, 3) := by decide +kernel
theorem dX11_sees_25 : decode cX11_sees 25 = .ok (.ifCond .eq 8, 3) := by decide +kernel
theorem dX11_sees_28 : decode cX11_sees 28 = .ok (.iload_n 1, 1) := by decide +kernel
theorem dX11_sees_29 : decode cX11_sees 29 = .ok (.iload_n 2, 1) := by decide +kernel
theorem dX11_sees_30 : decode cX11_sees 30 = .ok (.if_icmp .ne 5, 3) := by decide +kernel
theorem dX11_sees_33 : decode cX11_sees 33 = .ok (.iconst 0, 1) := by decide +kernel
theorem dX11_sees_34 : decode cX11_sees 34 = .ok (.ireturn, 1) := by decide +kernel
theorem dX11_sees_35 : decode cX11_sees 35 = .ok (.iconst 1, 1) := by decide +kernel
theorem dX11_sees_36 : decode cX11_sees 36 = .ok (.iload_n 2, 1) := by decide +kernel
theorem dX11_sees_37 : decode cX11_sees 37 = .ok (.ishl, 1) := by decide +kernel
theorem dX11_sees_38 : decode cX11_sees 38 = .ok (.istore 4, 2) := by decide +kernel
theorem dX11_sees_40 : decode cX11_sees 40 = .ok (.aload_n 0, 1) := by decide +kernel
theorem dX11_sees_41 : decode cX11_sees 41 = .ok (.getfield 46, 3) := by decide +kernel
theorem dX11_sees_44 : decode cX11_sees 44 = .ok (.getfield 101, 3) := by decide +kernel
theorem dX11_sees_47 : decode cX11_sees 47 = .ok (.getfield 128, 3) := by decide +kernel
theorem dX11_sees_50 : decode cX11_sees 50 = .ok (.iload_n 1, 1) := by decide +kernel
theorem dX11_sees_51 : decode cX11_sees 51 = .ok (.iaload, 1) := by decide +kernel
theorem dX11_sees_52 : decode cX11_sees 52 = .ok (.istore 5, 2) := by decide +kernel
theorem dX11_sees_54 : decode cX11_sees 54 = .ok (.aload_n 0, 1) := by decide +kernel
theorem dX11_sees_55 : decode cX11_sees 55 = .ok (.getfield 46, 3) := by decide +kernel
theorem dX11_sees_58 : decode cX11_sees 58 = .ok (.getfield 101, 3) := by decide +kernel
theorem dX11_sees_61 : decode cX11_sees 61 = .ok (.getfield 128, 3) := by decide +kernel
theorem dX11_sees_64 : decode cX11_sees 64 = .ok (.iload_n 1, 1) := by decide +kernel
theorem dX11_sees_65 : decode cX11_sees 65 = .ok (.iload_n 3, 1) := by decide +kernel
theorem dX11_sees_66 : decode cX11_sees 66 = .ok (.ifCond .eq 11, 3) := by decide +kernel
theorem dX11_sees_69 : decode cX11_sees 69 = .ok (.iload 5, 2) := by decide +kernel
theorem dX11_sees_71 : decode cX11_sees 71 = .ok (.iload 4, 2) := by decide +kernel
theorem dX11_sees_73 : decode cX11_sees 73 = .ok (.ior, 1) := by decide +kernel
theorem dX11_sees_74 : decode cX11_sees 74 = .ok (.goto 10, 3) := by decide +kernel
theorem dX11_sees_77 : decode cX11_sees 77 = .ok (.iload 5, 2) := by decide +kernel
theorem dX11_sees_79 : decode cX11_sees 79 = .ok (.iload 4, 2) := by decide +kernel
theorem dX11_sees_81 : decode cX11_sees 81 = .ok (.iconst (-1), 1) := by decide +kernel
theorem dX11_sees_82 : decode cX11_sees 82 = .ok (.ixor, 1) := by decide +kernel
theorem dX11_sees_83 : decode cX11_sees 83 = .ok (.iand, 1) := by decide +kernel
theorem dX11_sees_84 : decode cX11_sees 84 = .ok (.iastore, 1) := by decide +kernel
theorem dX11_sees_85 : decode cX11_sees 85 = .ok (.iconst 1, 1) := by decide +kernel
theorem dX11_sees_86 : decode cX11_sees 86 = .ok (.ireturn, 1) := by decide +kernel
theorem dX11_shows_0 : decode cX11_shows 0 = .ok (.iload_n 1, 1) := by decide +kernel
theorem dX11_shows_1 : decode cX11_shows 1 = .ok (.invokestatic 131, 3) := by decide +kernel
theorem dX11_shows_4 : decode cX11_shows 4 = .ok (.ifCond .eq 13, 3) := by decide +kernel
theorem dX11_shows_7 : decode cX11_shows 7 = .ok (.iload_n 2, 1) := by decide +kernel
theorem dX11_shows_8 : decode cX11_shows 8 = .ok (.iconst (-1), 1) := by decide +kernel
theorem dX11_shows_9 : decode cX11_shows 9 = .ok (.bipush 60, 2) := by decide +kernel
theorem dX11_shows_11 : decode cX11_shows 11 = .ok (.invokestatic 94, 3) := by decide +kernel
theorem dX11_shows_14 : decode cX11_shows 14 = .ok (.ifCond .ne 5, 3) := by decide +kernel
theorem dX11_shows_17 : decode cX11_shows 17 = .ok (.iconst 0, 1) := by decide +kernel
theorem dX11_shows_18 : decode cX11_shows 18 = .ok (.ireturn, 1) := by decide +kernel
theorem dX11_shows_19 : decode cX11_shows 19 = .ok (.aload_n 0, 1) := by decide +kernel
theorem dX11_shows_20 : decode cX11_shows 20 = .ok (.getfield 46, 3) := by decide +kernel
theorem dX11_shows_23 : decode cX11_shows 23 = .ok (.getfield 111, 3) := by decide +kernel
theorem dX11_shows_26 : decode cX11_shows 26 = .ok (.getfield 134, 3) := by decide +kernel
theorem dX11_shows_29 : decode cX11_shows 29 = .ok (.aload_n 0, 1) := by decide +kernel
theorem dX11_shows_30 : decode cX11_shows 30 = .ok (.getfield 46, 3) := by decide +kernel
theorem dX11_shows_33 : decode cX11_shows 33 = .ok (.getfield 98, 3) := by decide +kernel
theorem dX11_shows_36 : decode cX11_shows 36 = .ok (.iconst 4, 1) := by decide +kernel
theorem dX11_shows_37 : decode cX11_shows 37 = .ok (.imul, 1) := by decide +kernel
theorem dX11_shows_38 : decode cX11_shows 38 = .ok (.iload_n 1, 1) := by decide +kernel
theorem dX11_shows_39 : decode cX11_shows 39 = .ok (.iadd, 1) := by decide +kernel
theorem dX11_shows_40 : decode cX11_shows 40 = .ok (.iload_n 2, 1) := by decide +kernel
theorem dX11_shows_41 : decode cX11_shows 41 = .ok (.iastore, 1) := by decide +kernel
theorem dX11_shows_42 : decode cX11_shows 42 = .ok (.iconst 1, 1) := by decide +kernel
theorem dX11_shows_43 : decode cX11_shows 43 = .ok (.ireturn, 1) := by decide +kernel
theorem dX11_money_0 : decode cX11_money 0 = .ok (.iload_n 1, 1) := by decide +kernel
theorem dX11_money_1 : decode cX11_money 1 = .ok (.iconst 0, 1) := by decide +kernel
theorem dX11_money_2 : decode cX11_money 2 = .ok (.bipush 99, 2) := by decide +kernel
theorem dX11_money_4 : decode cX11_money 4 = .ok (.invokestatic 94, 3) := by decide +kernel
theorem dX11_money_7 : decode cX11_money 7 = .ok (.ifCond .ne 5, 3) := by decide +kernel
theorem dX11_money_10 : decode cX11_money 10 = .ok (.iconst 0, 1) := by decide +kernel
theorem dX11_money_11 : decode cX11_money 11 = .ok (.ireturn, 1) := by decide +kernel
theorem dX11_money_12 : decode cX11_money 12 = .ok (.aload_n 0, 1) := by decide +kernel
theorem dX11_money_13 : decode cX11_money 13 = .ok (.getfield 46, 3) := by decide +kernel
theorem dX11_money_16 : decode cX11_money 16 = .ok (.getfield 111, 3) := by decide +kernel
theorem dX11_money_19 : decode cX11_money 19 = .ok (.getfield 137, 3) := by decide +kernel
theorem dX11_money_22 : decode cX11_money 22 = .ok (.aload_n 0, 1) := by decide +kernel
theorem dX11_money_23 : decode cX11_money 23 = .ok (.getfield 46, 3) := by decide +kernel
theorem dX11_money_26 : decode cX11_money 26 = .ok (.getfield 98, 3) := by decide +kernel
theorem dX11_money_29 : decode cX11_money 29 = .ok (.iload_n 1, 1) := by decide +kernel
theorem dX11_money_30 : decode cX11_money 30 = .ok (.iastore, 1) := by decide +kernel
theorem dX11_money_31 : decode cX11_money 31 = .ok (.iconst 1, 1) := by decide +kernel
theorem dX11_money_32 : decode cX11_money 32 = .ok (.ireturn, 1) := by decide +kernel
theorem dX11_set_0 : decode cX11_set 0 = .ok (.iload_n 1, 1) := by decide +kernel
theorem dX11_set_1 : decode cX11_set 1 = .ok (.iconst 0, 1) := by decide +kernel
theorem dX11_set_2 : decode cX11_set 2 = .ok (.sipush 999, 3) := by decide +kernel
theorem dX11_set_5 : decode cX11_set 5 = .ok (.invokestatic 94, 3) := by decide +kernel
theorem dX11_set_8 : decode cX11_set 8 = .ok (.ifCond .eq 23, 3) := by decide +kernel
theorem dX11_set_11 : decode cX11_set 11 = .ok (.iload_n 2, 1) := by decide +kernel
theorem dX11_set_12 : decode cX11_set 12 = .ok (.iconst 0, 1) := by decide +kernel
theorem dX11_set_13 : decode cX11_set 13 = .ok (.bipush 9, 2) := by decide +kernel
theorem dX11_set_15 : decode cX11_set 15 = .ok (.invokestatic 94, 3) := by decide +kernel
theorem dX11_set_18 : decode cX11_set 18 = .ok (.ifCond .eq 13, 3) := by decide +kernel
theorem dX11_set_21 : decode cX11_set 21 = .ok (.iload_n 3, 1) := by decide +kernel
theorem dX11_set_22 : decode cX11_set 22 = .ok (.iconst 0, 1) := by decide +kernel
theorem dX11_set_23 : decode cX11_set 23 = .ok (.bipush 99, 2) := by decide +kernel
theorem dX11_set_25 : decode cX11_set 25 = .ok (.invokestatic 94, 3) := by decide +kernel
theorem dX11_set_28 : decode cX11_set 28 = .ok (.ifCond .ne 5, 3) := by decide +kernel
theorem dX11_set_31 : decode cX11_set 31 = .ok (.iconst 0, 1) := by decide +kernel
theorem dX11_set_32 : decode cX11_set 32 = .ok (.ireturn, 1) := by decide +kernel
theorem dX11_set_33 : decode cX11_set 33 = .ok (.aload_n 0, 1) := by decide +kernel
theorem dX11_set_34 : decode cX11_set 34 = .ok (.getfield 46, 3) := by decide +kernel
theorem dX11_set_37 : decode cX11_set 37 = .ok (.iload_n 1, 1) := by decide +kernel
theorem dX11_set_38 : decode cX11_set 38 = .ok (.putfield 140, 3) := by decide +kernel
theorem dX11_set_41 : decode cX11_set 41 = .ok (.aload_n 0, 1) := by decide +kernel
theorem dX11_set_42 : decode cX11_set 42 = .ok (.getfield 46, 3) := by decide +kernel
theorem dX11_set_45 : decode cX11_set 45 = .ok (.iload_n 2, 1) := by decide +kernel
theorem dX11_set_46 : decode cX11_set 46 = .ok (.putfield 143, 3) := by decide +kernel
theorem dX11_set_49 : decode cX11_set 49 = .ok (.aload_n 0, 1) := by decide +kernel
theorem dX11_set_50 : decode cX11_set 50 = .ok (.getfield 46, 3) := by decide +kernel
theorem dX11_set_53 : decode cX11_set 53 = .ok (.iload_n 3, 1) := by decide +kernel
theorem dX11_set_54 : decode cX11_set 54 = .ok (.putfield 146, 3) := by decide +kernel
theorem dX11_set_57 : decode cX11_set 57 = .ok (.iconst 1, 1) := by decide +kernel
theorem dX11_set_58 : decode cX11_set 58 = .ok (.ireturn, 1) := by decide +kernel
theorem dX11_seed_0 : decode cX11_seed 0 = .ok (.iload_n 1, 1) := by decide +kernel
theorem dX11_seed_1 : decode cX11_seed 1 = .ok (.iconst 0, 1) := by decide +kernel
theorem dX11_seed_2 : decode cX11_seed 2 = .ok (.ldc 149, 2) := by decide +kernel
theorem dX11_seed_4 : decode cX11_seed 4 = .ok (.invokestatic 94, 3) := by decide +kernel
theorem dX11_seed_7 : decode cX11_seed 7 = .ok (.ifCond .ne 5, 3) := by decide +kernel
theorem dX11_seed_10 : decode cX11_seed 10 = .ok (.iconst 0, 1) := by decide +kernel
theorem dX11_seed_11 : decode cX11_seed 11 = .ok (.ireturn, 1) := by decide +kernel
theorem dX11_seed_12 : decode cX11_seed 12 = .ok (.aload_n 0, 1) := by decide +kernel
theorem dX11_seed_13 : decode cX11_seed 13 = .ok (.getfield 46, 3) := by decide +kernel
theorem dX11_seed_16 : decode cX11_seed 16 = .ok (.iload_n 1, 1) := by decide +kernel
theorem dX11_seed_17 : decode cX11_seed 17 = .ok (.i2l, 1) := by decide +kernel
theorem dX11_seed_18 : decode cX11_seed 18 = .ok (.putfield 150, 3) := by decide +kernel
theorem dX11_seed_21 : decode cX11_seed 21 = .ok (.iconst 1, 1) := by decide +kernel
theorem dX11_seed_22 : decode cX11_seed 22 = .ok (.ireturn, 1) := by decide +kernel
theorem dX11_feed_0 : decode cX11_feed 0 = .ok (.aload_n 0, 1) := by decide +kernel
theorem dX11_feed_1 : decode cX11_feed 1 = .ok (.getfield 13, 3) := by decide +kernel
theorem dX11_feed_4 : decode cX11_feed 4 = .ok (.bipush 20, 2) := by decide +kernel
theorem dX11_feed_6 : decode cX11_feed 6 = .ok (.iadd, 1) := by decide +kernel
theorem dX11_feed_7 : decode cX11_feed 7 = .ok (.sipush 700, 3) := by decide +kernel
theorem dX11_feed_10 : decode cX11_feed 10 = .ok (.if_icmp .le 5, 3) := by decide +kernel
theorem dX11_feed_13 : decode cX11_feed 13 = .ok (.iconst (-1), 1) := by decide +kernel
theorem dX11_feed_14 : decode cX11_feed 14 = .ok (.ireturn, 1) := by decide +kernel
theorem dX11_feed_15 : decode cX11_feed 15 = .ok (.aload_n 0, 1) := by decide +kernel
theorem dX11_feed_16 : decode cX11_feed 16 = .ok (.iload_n 1, 1) := by decide +kernel
theorem dX11_feed_17 : decode cX11_feed 17 = .ok (.invokevirtual 154, 3) := by decide +kernel
theorem dX11_feed_20 : decode cX11_feed 20 = .ok (.aload_n 0, 1) := by decide +kernel
theorem dX11_feed_21 : decode cX11_feed 21 = .ok (.iload_n 2, 1) := by decide +kernel
theorem dX11_feed_22 : decode cX11_feed 22 = .ok (.invokevirtual 154, 3) := by decide +kernel
theorem dX11_feed_25 : decode cX11_feed 25 = .ok (.aload_n 0, 1) := by decide +kernel
theorem dX11_feed_26 : decode cX11_feed 26 = .ok (.iload_n 3, 1) := by decide +kernel
theorem dX11_feed_27 : decode cX11_feed 27 = .ok (.invokevirtual 154, 3) := by decide +kernel
theorem dX11_feed_30 : decode cX11_feed 30 = .ok (.aload_n 0, 1) := by decide +kernel
theorem dX11_feed_31 : decode cX11_feed 31 = .ok (.iload 4, 2) := by decide +kernel
theorem dX11_feed_33 : decode cX11_feed 33 = .ok (.invokevirtual 154, 3) := by decide +kernel
theorem dX11_feed_36 : decode cX11_feed 36 = .ok (.aload_n 0, 1) := by decide +kernel
theorem dX11_feed_37 : decode cX11_feed 37 = .ok (.iload 5, 2) := by decide +kernel
theorem dX11_feed_39 : decode cX11_feed 39 = .ok (.invokevirtual 154, 3) := by decide +kernel
theorem dX11_feed_42 : decode cX11_feed 42 = .ok (.aload_n 0, 1) := by decide +kernel
theorem dX11_feed_43 : decode cX11_feed 43 = .ok (.getfield 13, 3) := by decide +kernel
theorem dX11_feed_46 : decode cX11_feed 46 = .ok (.ireturn, 1) := by decide +kernel
theorem dX11_law_0 : decode cX11_law 0 = .ok (.iload_n 1, 1) := by decide +kernel
theorem dX11_law_1 : decode cX11_law 1 = .ok (.ifCond .lt 11, 3) := by decide +kernel
theorem dX11_law_4 : decode cX11_law 4 = .ok (.iload_n 1, 1) := by decide +kernel
theorem dX11_law_5 : decode cX11_law 5 = .ok (.aload_n 0, 1) := by decide +kernel
theorem dX11_law_6 : decode cX11_law 6 = .ok (.getfield 13, 3) := by decide +kernel
theorem dX11_law_9 : decode cX11_law 9 = .ok (.if_icmp .le 6, 3) := by decide +kernel
theorem dX11_law_12 : decode cX11_law 12 = .ok (.bipush (-2), 2) := by decide +kernel
theorem dX11_law_14 : decode cX11_law 14 = .ok (.ireturn, 1) := by decide +kernel
theorem dX11_law_15 : decode cX11_law 15 = .ok (.aload_n 0, 1) := by decide +kernel
theorem dX11_law_16 : decode cX11_law 16 = .ok (.getfield 32, 3) := by decide +kernel
theorem dX11_law_19 : decode cX11_law 19 = .ok (.iconst 5, 1) := by decide +kernel
theorem dX11_law_20 : decode cX11_law 20 = .ok (.if_icmp .lt 6, 3) := by decide +kernel
theorem dX11_law_23 : decode cX11_law 23 = .ok (.bipush (-3), 2) := by decide +kernel
theorem dX11_law_25 : decode cX11_law 25 = .ok (.ireturn, 1) := by decide +kernel
theorem dX11_law_26 : decode cX11_law 26 = .ok (.aload_n 0, 1) := by decide +kernel
theorem dX11_law_27 : decode cX11_law 27 = .ok (.iconst 0, 1) := by decide +kernel
theorem dX11_law_28 : decode cX11_law 28 = .ok (.putfield 13, 3) := by decide +kernel
theorem dX11_law_31 : decode cX11_law 31 = .ok (.aload_n 0, 1) := by decide +kernel
theorem dX11_law_32 : decode cX11_law 32 = .ok (.getfield 22, 3) := by decide +kernel
theorem dX11_law_35 : decode cX11_law 35 = .ok (.iload_n 1, 1) := by decide +kernel
theorem dX11_law_36 : decode cX11_law 36 = .ok (.invokevirtual 157, 3) := by decide +kernel
theorem dX11_law_39 : decode cX11_law 39 = .ok (.astore_n 2, 1) := by decide +kernel
theorem dX11_law_40 : decode cX11_law 40 = .ok (.aload_n 2, 1) := by decide +kernel
theorem dX11_law_41 : decode cX11_law 41 = .ok (.ifnonnull 16, 3) := by decide +kernel
theorem dX11_law_44 : decode cX11_law 44 = .ok (.aload_n 0, 1) := by decide +kernel
theorem dX11_law_45 : decode cX11_law 45 = .ok (.aload_n 0, 1) := by decide +kernel
theorem dX11_law_46 : decode cX11_law 46 = .ok (.getfield 22, 3) := by decide +kernel
theorem dX11_law_49 : decode cX11_law 49 = .ok (.invokevirtual 161, 3) := by decide +kernel
theorem dX11_law_52 : decode cX11_law 52 = .ok (.putfield 38, 3) := by decide +kernel
theorem dX11_law_55 : decode cX11_law 55 = .ok (.iconst (-1), 1) := by decide +kernel
theorem dX11_law_56 : decode cX11_law 56 = .ok (.ireturn, 1) := by decide +kernel
theorem dX11_law_57 : decode cX11_law 57 = .ok (.aload_n 0, 1) := by decide +kernel
theorem dX11_law_58 : decode cX11_law 58 = .ok (.iconst (-1), 1) := by decide +kernel
theorem dX11_law_59 : decode cX11_law 59 = .ok (.putfield 38, 3) := by decide +kernel
theorem dX11_law_62 : decode cX11_law 62 = .ok (.aload_n 0, 1) := by decide +kernel
theorem dX11_law_63 : decode cX11_law 63 = .ok (.getfield 28, 3) := by decide +kernel
theorem dX11_law_66 : decode cX11_law 66 = .ok (.aload_n 0, 1) := by decide +kernel
theorem dX11_law_67 : decode cX11_law 67 = .ok (.getfield 32, 3) := by decide +kernel
theorem dX11_law_70 : decode cX11_law 70 = .ok (.aload_n 2, 1) := by decide +kernel
theorem dX11_law_71 : decode cX11_law 71 = .ok (.aastore, 1) := by decide +kernel
theorem dX11_law_72 : decode cX11_law 72 = .ok (.aload_n 0, 1) := by decide +kernel
theorem dX11_law_73 : decode cX11_law 73 = .ok (.aload_n 0, 1) := by decide +kernel
theorem dX11_law_74 : decode cX11_law 74 = .ok (.getfield 32, 3) := by decide +kernel
theorem dX11_law_77 : decode cX11_law 77 = .ok (.putfield 35, 3) := by decide +kernel
theorem dX11_law_80 : decode cX11_law 80 = .ok (.aload_n 0, 1) := by decide +kernel
theorem dX11_law_81 : decode cX11_law 81 = .ok (.dup, 1) := by decide +kernel
theorem dX11_law_82 : decode cX11_law 82 = .ok (.getfield 32, 3) := by decide +kernel
theorem dX11_law_85 : decode cX11_law 85 = .ok (.iconst 1, 1) := by decide +kernel
theorem dX11_law_86 : decode cX11_law 86 = .ok (.iadd, 1) := by decide +kernel
theorem dX11_law_87 : decode cX11_law 87 = .ok (.putfield 32, 3) := by decide +kernel
theorem dX11_law_90 : decode cX11_law 90 = .ok (.aload_n 0, 1) := by decide +kernel
theorem dX11_law_91 : decode cX11_law 91 = .ok (.getfield 35, 3) := by decide +kernel
theorem dX11_law_94 : decode cX11_law 94 = .ok (.ireturn, 1) := by decide +kernel
theorem dX11_force_0 : decode cX11_force 0 = .ok (.iload_n 1, 1) := by decide +kernel
theorem dX11_force_1 : decode cX11_force 1 = .ok (.iconst 0, 1) := by decide +kernel
theorem dX11_force_2 : decode cX11_force 2 = .ok (.aload_n 0, 1) := by decide +kernel
theorem dX11_force_3 : decode cX11_force 3 = .ok (.getfield 32, 3) := by decide +kernel
theorem dX11_force_6 : decode cX11_force 6 = .ok (.iconst 1, 1) := by decide +kernel
theorem dX11_force_7 : decode cX11_force 7 = .ok (.isub, 1) := by decide +kernel
theorem dX11_force_8 : decode cX11_force 8 = .ok (.invokestatic 94, 3) := by decide +kernel
theorem dX11_force_11 : decode cX11_force 11 = .ok (.ifCond .ne 5, 3) := by decide +kernel
theorem dX11_force_14 : decode cX11_force 14 = .ok (.iconst 0, 1) := by decide +kernel
theorem dX11_force_15 : decode cX11_force 15 = .ok (.ireturn, 1) := by decide +kernel
theorem dX11_force_16 : decode cX11_force 16 = .ok (.aload_n 0, 1) := by decide +kernel
theorem dX11_force_17 : decode cX11_force 17 = .ok (.iload_n 1, 1) := by decide +kernel
theorem dX11_force_18 : decode cX11_force 18 = .ok (.putfield 35, 3) := by decide +kernel
theorem dX11_force_21 : decode cX11_force 21 = .ok (.iconst 1, 1) := by decide +kernel
theorem dX11_force_22 : decode cX11_force 22 = .ok (.ireturn, 1) := by decide +kernel
theorem dX11_fault_0 : decode cX11_fault 0 = .ok (.aload_n 0, 1) := by decide +kernel
theorem dX11_fault_1 : decode cX11_fault 1 = .ok (.getfield 38, 3) := by decide +kernel
theorem dX11_fault_4 : decode cX11_fault 4 = .ok (.ireturn, 1) := by decide +kernel
theorem dX11_run_0 : decode cX11_run 0 = .ok (.aload_n 0, 1) := by decide +kernel
theorem dX11_run_1 : decode cX11_run 1 = .ok (.invokevirtual 165, 3) := by decide +kernel
theorem dX11_run_4 : decode cX11_run 4 = .ok (.astore_n 2, 1) := by decide +kernel
theorem dX11_run_5 : decode cX11_run 5 = .ok (.iload_n 1, 1) := by decide +kernel
theorem dX11_run_6 : decode cX11_run 6 = .ok (.iconst 1, 1) := by decide +kernel
theorem dX11_run_7 : decode cX11_run 7 = .ok (.bipush 60, 2) := by decide +kernel
theorem dX11_run_9 : decode cX11_run 9 = .ok (.invokestatic 94, 3) := by decide +kernel
theorem dX11_run_12 : decode cX11_run 12 = .ok (.ifCond .eq 35, 3) := by decide +kernel
theorem dX11_run_15 : decode cX11_run 15 = .ok (.aload_n 0, 1) := by decide +kernel
theorem dX11_run_16 : decode cX11_run 16 = .ok (.getfield 46, 3) := by decide +kernel
theorem dX11_run_19 : decode cX11_run 19 = .ok (.getfield 98, 3) := by decide +kernel
theorem dX11_run_22 : decode cX11_run 22 = .ok (.iload_n 1, 1) := by decide +kernel
theorem dX11_run_23 : decode cX11_run 23 = .ok (.iadd, 1) := by decide +kernel
theorem dX11_run_24 : decode cX11_run 24 = .ok (.sipush 200, 3) := by decide +kernel
theorem dX11_run_27 : decode cX11_run 27 = .ok (.if_icmp .gt 20, 3) := by decide +kernel
theorem dX11_run_30 : decode cX11_run 30 = .ok (.aload_n 0, 1) := by decide +kernel
theorem dX11_run_31 : decode cX11_run 31 = .ok (.getfield 46, 3) := by decide +kernel
theorem dX11_run_34 : decode cX11_run 34 = .ok (.getfield 101, 3) := by decide +kernel
theorem dX11_run_37 : decode cX11_run 37 = .ok (.invokevirtual 169, 3) := by decide +kernel
theorem dX11_run_40 : decode cX11_run 40 = .ok (.ifCond .ne 7, 3) := by decide +kernel
theorem dX11_run_43 : decode cX11_run 43 = .ok (.aload_n 2, 1) := by decide +kernel
theorem dX11_run_44 : decode cX11_run 44 = .ok (.ifnonnull 5, 3) := by decide +kernel
theorem dX11_run_47 : decode cX11_run 47 = .ok (.iconst (-1), 1) := by decide +kernel
theorem dX11_run_48 : decode cX11_run 48 = .ok (.ireturn, 1) := by decide +kernel
theorem dX11_run_49 : decode cX11_run 49 = .ok (.iconst 0, 1) := by decide +kernel
theorem dX11_run_50 : decode cX11_run 50 = .ok (.istore_n 3, 1) := by decide +kernel
theorem dX11_run_51 : decode cX11_run 51 = .ok (.iload_n 3, 1) := by decide +kernel
theorem dX11_run_52 : decode cX11_run 52 = .ok (.iload_n 1, 1) := by decide +kernel
theorem dX11_run_53 : decode cX11_run 53 = .ok (.if_icmp .ge 17, 3) := by decide +kernel
theorem dX11_run_56 : decode cX11_run 56 = .ok (.aload_n 0, 1) := by decide +kernel
theorem dX11_run_57 : decode cX11_run 57 = .ok (.getfield 46, 3) := by decide +kernel
theorem dX11_run_60 : decode cX11_run 60 = .ok (.aload_n 2, 1) := by decide +kernel
theorem dX11_run_61 : decode cX11_run 61 = .ok (.invokevirtual 173, 3) := by decide +kernel
theorem dX11_run_64 : decode cX11_run 64 = .ok (.iinc 3 1, 3) := by decide +kernel
theorem dX11_run_67 : decode cX11_run 67 = .ok (.goto (-16), 3) := by decide +kernel
theorem dX11_run_70 : decode cX11_run 70 = .ok (.aload_n 0, 1) := by decide +kernel
theorem dX11_run_71 : decode cX11_run 71 = .ok (.getfield 46, 3) := by decide +kernel
theorem dX11_run_74 : decode cX11_run 74 = .ok (.getfield 98, 3) := by decide +kernel
theorem dX11_run_77 : decode cX11_run 77 = .ok (.ireturn, 1) := by decide +kernel
theorem dX11_line_0 : decode cX11_line 0 = .ok (.aload_n 0, 1) := by decide +kernel
theorem dX11_line_1 : decode cX11_line 1 = .ok (.getfield 46, 3) := by decide +kernel
theorem dX11_line_4 : decode cX11_line 4 = .ok (.iload_n 1, 1) := by decide +kernel
theorem dX11_line_5 : decode cX11_line 5 = .ok (.invokevirtual 177, 3) := by decide +kernel
theorem dX11_line_8 : decode cX11_line 8 = .ok (.ifCond .eq 14, 3) := by decide +kernel
theorem dX11_line_11 : decode cX11_line 11 = .ok (.aload_n 0, 1) := by decide +kernel
theorem dX11_line_12 : decode cX11_line 12 = .ok (.getfield 46, 3) := by decide +kernel
theorem dX11_line_15 : decode cX11_line 15 = .ok (.iload_n 1, 1) := by decide +kernel
theorem dX11_line_16 : decode cX11_line 16 = .ok (.invokevirtual 180, 3) := by decide +kernel
theorem dX11_line_19 : decode cX11_line 19 = .ok (.goto 4, 3) := by decide +kernel
theorem dX11_line_22 : decode cX11_line 22 = .ok (.iconst (-1), 1) := by decide +kernel
theorem dX11_line_23 : decode cX11_line 23 = .ok (.ireturn, 1) := by decide +kernel
theorem dX11_length_0 : decode cX11_length 0 = .ok (.aload_n 0, 1) := by decide +kernel
theorem dX11_length_1 : decode cX11_length 1 = .ok (.getfield 46, 3) := by decide +kernel
theorem dX11_length_4 : decode cX11_length 4 = .ok (.getfield 101, 3) := by decide +kernel
theorem dX11_length_7 : decode cX11_length 7 = .ok (.iload_n 1, 1) := by decide +kernel
theorem dX11_length_8 : decode cX11_length 8 = .ok (.invokevirtual 124, 3) := by decide +kernel
theorem dX11_length_11 : decode cX11_length 11 = .ok (.ifCond .eq 14, 3) := by decide +kernel
theorem dX11_length_14 : decode cX11_length 14 = .ok (.aload_n 0, 1) := by decide +kernel
theorem dX11_length_15 : decode cX11_length 15 = .ok (.getfield 46, 3) := by decide +kernel
theorem dX11_length_18 : decode cX11_length 18 = .ok (.iload_n 2, 1) := by decide +kernel
theorem dX11_length_19 : decode cX11_length 19 = .ok (.invokevirtual 177, 3) := by decide +kernel
theorem dX11_length_22 : decode cX11_length 22 = .ok (.ifCond .ne 5, 3) := by decide +kernel
theorem dX11_length_25 : decode cX11_length 25 = .ok (.iconst (-1), 1) := by decide +kernel
theorem dX11_length_26 : decode cX11_length 26 = .ok (.ireturn, 1) := by decide +kernel
theorem dX11_length_27 : decode cX11_length 27 = .ok (.aload_n 0, 1) := by decide +kernel
theorem dX11_length_28 : decode cX11_length 28 = .ok (.getfield 46, 3) := by decide +kernel
theorem dX11_length_31 : decode cX11_length 31 = .ok (.getfield 111, 3) := by decide +kernel
theorem dX11_length_34 : decode cX11_length 34 = .ok (.iload_n 1, 1) := by decide +kernel
theorem dX11_length_35 : decode cX11_length 35 = .ok (.iload_n 2, 1) := by decide +kernel
theorem dX11_length_36 : decode cX11_length 36 = .ok (.invokevirtual 184, 3) := by decide +kernel
theorem dX11_length_39 : decode cX11_length 39 = .ok (.ireturn, 1) := by decide +kernel
theorem dX11_wears_0 : decode cX11_wears 0 = .ok (.aload_n 0, 1) := by decide +kernel
theorem dX11_wears_1 : decode cX11_wears 1 = .ok (.getfield 46, 3) := by decide +kernel
theorem dX11_wears_4 : decode cX11_wears 4 = .ok (.getfield 101, 3) := by decide +kernel
theorem dX11_wears_7 : decode cX11_wears 7 = .ok (.iload_n 1, 1) := by decide +kernel
theorem dX11_wears_8 : decode cX11_wears 8 = .ok (.invokevirtual 124, 3) := by decide +kernel
theorem dX11_wears_11 : decode cX11_wears 11 = .ok (.ifCond .ne 5, 3) := by decide +kernel
theorem dX11_wears_14 : decode cX11_wears 14 = .ok (.iconst (-1), 1) := by decide +kernel
theorem dX11_wears_15 : decode cX11_wears 15 = .ok (.ireturn, 1) := by decide +kernel
theorem dX11_wears_16 : decode cX11_wears 16 = .ok (.aload_n 0, 1) := by decide +kernel
theorem dX11_wears_17 : decode cX11_wears 17 = .ok (.getfield 46, 3) := by decide +kernel
theorem dX11_wears_20 : decode cX11_wears 20 = .ok (.getfield 101, 3) := by decide +kernel
theorem dX11_wears_23 : decode cX11_wears 23 = .ok (.astore_n 3, 1) := by decide +kernel
theorem dX11_wears_24 : decode cX11_wears 24 = .ok (.iload_n 2, 1) := by decide +kernel
theorem dX11_wears_25 : decode cX11_wears 25 = .ok (.tableswitch 110 0 6 #[43, 50, 57, 76, 83, 90, 97], 43) := by decide +kernel
theorem dX11_wears_68 : decode cX11_wears 68 = .ok (.aload_n 3, 1) := by decide +kernel
theorem dX11_wears_69 : decode cX11_wears 69 = .ok (.getfield 187, 3) := by decide +kernel
theorem dX11_wears_72 : decode cX11_wears 72 = .ok (.iload_n 1, 1) := by decide +kernel
theorem dX11_wears_73 : decode cX11_wears 73 = .ok (.iaload, 1) := by decide +kernel
theorem dX11_wears_74 : decode cX11_wears 74 = .ok (.ireturn, 1) := by decide +kernel
theorem dX11_wears_75 : decode cX11_wears 75 = .ok (.aload_n 3, 1) := by decide +kernel
theorem dX11_wears_76 : decode cX11_wears 76 = .ok (.getfield 190, 3) := by decide +kernel
theorem dX11_wears_79 : decode cX11_wears 79 = .ok (.iload_n 1, 1) := by decide +kernel
theorem dX11_wears_80 : decode cX11_wears 80 = .ok (.iaload, 1) := by decide +kernel
theorem dX11_wears_81 : decode cX11_wears 81 = .ok (.ireturn, 1) := by decide +kernel
theorem dX11_wears_82 : decode cX11_wears 82 = .ok (.aload_n 0, 1) := by decide +kernel
theorem dX11_wears_83 : decode cX11_wears 83 = .ok (.getfield 46, 3) := by decide +kernel
theorem dX11_wears_86 : decode cX11_wears 86 = .ok (.getfield 111, 3) := by decide +kernel
theorem dX11_wears_89 : decode cX11_wears 89 = .ok (.iload_n 1, 1) := by decide +kernel
theorem dX11_wears_90 : decode cX11_wears 90 = .ok (.aload_n 0, 1) := by decide +kernel
theorem dX11_wears_91 : decode cX11_wears 91 = .ok (.getfield 46, 3) := by decide +kernel
theorem dX11_wears_94 : decode cX11_wears 94 = .ok (.getfield 98, 3) := by decide +kernel
theorem dX11_wears_97 : decode cX11_wears 97 = .ok (.invokevirtual 184, 3) := by decide +kernel
theorem dX11_wears_100 : decode cX11_wears 100 = .ok (.ireturn, 1) := by decide +kernel
theorem dX11_wears_101 : decode cX11_wears 101 = .ok (.aload_n 3, 1) := by decide +kernel
theorem dX11_wears_102 : decode cX11_wears 102 = .ok (.getfield 193, 3) := by decide +kernel
theorem dX11_wears_105 : decode cX11_wears 105 = .ok (.iload_n 1, 1) := by decide +kernel
theorem dX11_wears_106 : decode cX11_wears 106 = .ok (.iaload, 1) := by decide +kernel
theorem dX11_wears_107 : decode cX11_wears 107 = .ok (.ireturn, 1) := by decide +kernel
theorem dX11_wears_108 : decode cX11_wears 108 = .ok (.aload_n 3, 1) := by decide +kernel
theorem dX11_wears_109 : decode cX11_wears 109 = .ok (.getfield 196, 3) := by decide +kernel
theorem dX11_wears_112 : decode cX11_wears 112 = .ok (.iload_n 1, 1) := by decide +kernel
theorem dX11_wears_113 : decode cX11_wears 113 = .ok (.iaload, 1) := by decide +kernel
theorem dX11_wears_114 : decode cX11_wears 114 = .ok (.ireturn, 1) := by decide +kernel
theorem dX11_wears_115 : decode cX11_wears 115 = .ok (.aload_n 3, 1) := by decide +kernel
theorem dX11_wears_116 : decode cX11_wears 116 = .ok (.getfield 128, 3) := by decide +kernel
theorem dX11_wears_119 : decode cX11_wears 119 = .ok (.iload_n 1, 1) := by decide +kernel
theorem dX11_wears_120 : decode cX11_wears 120 = .ok (.iaload, 1) := by decide +kernel
theorem dX11_wears_121 : decode cX11_wears 121 = .ok (.ireturn, 1) := by decide +kernel
theorem dX11_wears_122 : decode cX11_wears 122 = .ok (.aload_n 0, 1) := by decide +kernel
theorem dX11_wears_123 : decode cX11_wears 123 = .ok (.getfield 46, 3) := by decide +kernel
theorem dX11_wears_126 : decode cX11_wears 126 = .ok (.aload_n 0, 1) := by decide +kernel
theorem dX11_wears_127 : decode cX11_wears 127 = .ok (.invokevirtual 165, 3) := by decide +kernel
theorem dX11_wears_130 : decode cX11_wears 130 = .ok (.iload_n 1, 1) := by decide +kernel
theorem dX11_wears_131 : decode cX11_wears 131 = .ok (.invokevirtual 199, 3) := by decide +kernel
theorem dX11_wears_134 : decode cX11_wears 134 = .ok (.ireturn, 1) := by decide +kernel
theorem dX11_wears_135 : decode cX11_wears 135 = .ok (.iload_n 2, 1) := by decide +kernel
theorem dX11_wears_136 : decode cX11_wears 136 = .ok (.bipush 10, 2) := by decide +kernel
theorem dX11_wears_138 : decode cX11_wears 138 = .ok (.bipush 15, 2) := by decide +kernel
theorem dX11_wears_140 : decode cX11_wears 140 = .ok (.invokestatic 94, 3) := by decide +kernel
theorem dX11_wears_143 : decode cX11_wears 143 = .ok (.ifCond .eq 20, 3) := by decide +kernel
theorem dX11_wears_146 : decode cX11_wears 146 = .ok (.aload_n 3, 1) := by decide +kernel
theorem dX11_wears_147 : decode cX11_wears 147 = .ok (.getfield 203, 3) := by decide +kernel
theorem dX11_wears_150 : decode cX11_wears 150 = .ok (.iload_n 1, 1) := by decide +kernel
theorem dX11_wears_151 : decode cX11_wears 151 = .ok (.bipush 6, 2) := by decide +kernel
theorem dX11_wears_153 : decode cX11_wears 153 = .ok (.imul, 1) := by decide +kernel
theorem dX11_wears_154 : decode cX11_wears 154 = .ok (.iload_n 2, 1) := by decide +kernel
theorem dX11_wears_155 : decode cX11_wears 155 = .ok (.iadd, 1) := by decide +kernel
theorem dX11_wears_156 : decode cX11_wears 156 = .ok (.bipush 10, 2) := by decide +kernel
theorem dX11_wears_158 : decode cX11_wears 158 = .ok (.isub, 1) := by decide +kernel
theorem dX11_wears_159 : decode cX11_wears 159 = .ok (.iaload, 1) := by decide +kernel
theorem dX11_wears_160 : decode cX11_wears 160 = .ok (.goto 4, 3) := by decide +kernel
theorem dX11_wears_163 : decode cX11_wears 163 = .ok (.iconst (-1), 1) := by decide +kernel
theorem dX11_wears_164 : decode cX11_wears 164 = .ok (.ireturn, 1) := by decide +kernel
theorem dX11_round_0 : decode cX11_round 0 = .ok (.aload_n 0, 1) := by decide +kernel
theorem dX11_round_1 : decode cX11_round 1 = .ok (.invokevirtual 165, 3) := by decide +kernel
theorem dX11_round_4 : decode cX11_round 4 = .ok (.astore_n 3, 1) := by decide +kernel
theorem dX11_round_5 : decode cX11_round 5 = .ok (.iload_n 1, 1) := by decide +kernel
theorem dX11_round_6 : decode cX11_round 6 = .ok (.iconst 1, 1) := by decide +kernel
theorem dX11_round_7 : decode cX11_round 7 = .ok (.bipush 100, 2) := by decide +kernel
theorem dX11_round_9 : decode cX11_round 9 = .ok (.invokestatic 94, 3) := by decide +kernel
theorem dX11_round_12 : decode cX11_round 12 = .ok (.ifCond .eq 16, 3) := by decide +kernel
theorem dX11_round_15 : decode cX11_round 15 = .ok (.iload_n 2, 1) := by decide +kernel
theorem dX11_round_16 : decode cX11_round 16 = .ok (.iconst 0, 1) := by decide +kernel
theorem dX11_round_17 : decode cX11_round 17 = .ok (.iconst 1, 1) := by decide +kernel
theorem dX11_round_18 : decode cX11_round 18 = .ok (.invokestatic 94, 3) := by decide +kernel
theorem dX11_round_21 : decode cX11_round 21 = .ok (.ifCond .eq 7, 3) := by decide +kernel
theorem dX11_round_24 : decode cX11_round 24 = .ok (.iconst 1, 1) := by decide +kernel
theorem dX11_round_25 : decode cX11_round 25 = .ok (.goto 4, 3) := by decide +kernel
theorem dX11_round_28 : decode cX11_round 28 = .ok (.iconst 0, 1) := by decide +kernel
theorem dX11_round_29 : decode cX11_round 29 = .ok (.istore 4, 2) := by decide +kernel
theorem dX11_round_31 : decode cX11_round 31 = .ok (.iload 4, 2) := by decide +kernel
theorem dX11_round_33 : decode cX11_round 33 = .ok (.ifCond .eq 20, 3) := by decide +kernel
theorem dX11_round_36 : decode cX11_round 36 = .ok (.aload_n 3, 1) := by decide +kernel
theorem dX11_round_37 : decode cX11_round 37 = .ok (.ifnull 16, 3) := by decide +kernel
theorem dX11_round_40 : decode cX11_round 40 = .ok (.aload_n 0, 1) := by decide +kernel
theorem dX11_round_41 : decode cX11_round 41 = .ok (.getfield 46, 3) := by decide +kernel
theorem dX11_round_44 : decode cX11_round 44 = .ok (.getfield 101, 3) := by decide +kernel
theorem dX11_round_47 : decode cX11_round 47 = .ok (.invokevirtual 169, 3) := by decide +kernel
theorem dX11_round_50 : decode cX11_round 50 = .ok (.ifCond .eq 5, 3) := by decide +kernel
theorem dX11_round_53 : decode cX11_round 53 = .ok (.iconst (-1), 1) := by decide +kernel
theorem dX11_round_54 : decode cX11_round 54 = .ok (.ireturn, 1) := by decide +kernel
theorem dX11_round_55 : decode cX11_round 55 = .ok (.aload_n 0, 1) := by decide +kernel
theorem dX11_round_56 : decode cX11_round 56 = .ok (.getfield 55, 3) := by decide +kernel
theorem dX11_round_59 : decode cX11_round 59 = .ok (.aload_n 3, 1) := by decide +kernel
theorem dX11_round_60 : decode cX11_round 60 = .ok (.iload_n 1, 1) := by decide +kernel
theorem dX11_round_61 : decode cX11_round 61 = .ok (.iconst 1, 1) := by decide +kernel
theorem dX11_round_62 : decode cX11_round 62 = .ok (.iconst (-1), 1) := by decide +kernel
theorem dX11_round_63 : decode cX11_round 63 = .ok (.invokevirtual 206, 3) := by decide +kernel
theorem dX11_round_66 : decode cX11_round 66 = .ok (.aload_n 0, 1) := by decide +kernel
theorem dX11_round_67 : decode cX11_round 67 = .ok (.getfield 55, 3) := by decide +kernel
theorem dX11_round_70 : decode cX11_round 70 = .ok (.iload_n 1, 1) := by decide +kernel
theorem dX11_round_71 : decode cX11_round 71 = .ok (.iconst 1, 1) := by decide +kernel
theorem dX11_round_72 : decode cX11_round 72 = .ok (.iload_n 2, 1) := by decide +kernel
theorem dX11_round_73 : decode cX11_round 73 = .ok (.invokevirtual 210, 3) := by decide +kernel
theorem dX11_round_76 : decode cX11_round 76 = .ok (.ireturn, 1) := by decide +kernel
theorem dX11_pushed_0 : decode cX11_pushed 0 = .ok (.aload_n 0, 1) := by decide +kernel
theorem dX11_pushed_1 : decode cX11_pushed 1 = .ok (.invokevirtual 165, 3) := by decide +kernel
theorem dX11_pushed_4 : decode cX11_pushed 4 = .ok (.astore 5, 2) := by decide +kernel
theorem dX11_pushed_6 : decode cX11_pushed 6 = .ok (.iload_n 1, 1) := by decide +kernel
theorem dX11_pushed_7 : decode cX11_pushed 7 = .ok (.iconst 1, 1) := by decide +kernel
theorem dX11_pushed_8 : decode cX11_pushed 8 = .ok (.bipush 100, 2) := by decide +kernel
theorem dX11_pushed_10 : decode cX11_pushed 10 = .ok (.invokestatic 94, 3) := by decide +kernel
theorem dX11_pushed_13 : decode cX11_pushed 13 = .ok (.ifCond .eq 37, 3) := by decide +kernel
theorem dX11_pushed_16 : decode cX11_pushed 16 = .ok (.iload_n 2, 1) := by decide +kernel
theorem dX11_pushed_17 : decode cX11_pushed 17 = .ok (.iconst 1, 1) := by decide +kernel
theorem dX11_pushed_18 : decode cX11_pushed 18 = .ok (.bipush 20, 2) := by decide +kernel
theorem dX11_pushed_20 : decode cX11_pushed 20 = .ok (.invokestatic 94, 3) := by decide +kernel
theorem dX11_pushed_23 : decode cX11_pushed 23 = .ok (.ifCond .eq 27, 3) := by decide +kernel
theorem dX11_pushed_26 : decode cX11_pushed 26 = .ok (.iload_n 3, 1) := by decide +kernel
theorem dX11_pushed_27 : decode cX11_pushed 27 = .ok (.iconst 0, 1) := by decide +kernel
theorem dX11_pushed_28 : decode cX11_pushed 28 = .ok (.bipush 99, 2) := by decide +kernel
theorem dX11_pushed_30 : decode cX11_pushed 30 = .ok (.invokestatic 94, 3) := by decide +kernel
theorem dX11_pushed_33 : decode cX11_pushed 33 = .ok (.ifCond .eq 17, 3) := by decide +kernel
theorem dX11_pushed_36 : decode cX11_pushed 36 = .ok (.iload 4, 2) := by decide +kernel
theorem dX11_pushed_38 : decode cX11_pushed 38 = .ok (.iconst 0, 1) := by decide +kernel
theorem dX11_pushed_39 : decode cX11_pushed 39 = .ok (.iconst 1, 1) := by decide +kernel
theorem dX11_pushed_40 : decode cX11_pushed 40 = .ok (.invokestatic 94, 3) := by decide +kernel
theorem dX11_pushed_43 : decode cX11_pushed 43 = .ok (.ifCond .eq 7, 3) := by decide +kernel
theorem dX11_pushed_46 : decode cX11_pushed 46 = .ok (.iconst 1, 1) := by decide +kernel
theorem dX11_pushed_47 : decode cX11_pushed 47 = .ok (.goto 4, 3) := by decide +kernel
theorem dX11_pushed_50 : decode cX11_pushed 50 = .ok (.iconst 0, 1) := by decide +kernel
theorem dX11_pushed_51 : decode cX11_pushed 51 = .ok (.istore 6, 2) := by decide +kernel
theorem dX11_pushed_53 : decode cX11_pushed 53 = .ok (.iload 6, 2) := by decide +kernel
theorem dX11_pushed_55 : decode cX11_pushed 55 = .ok (.ifCond .eq 21, 3) := by decide +kernel
theorem dX11_pushed_58 : decode cX11_pushed 58 = .ok (.aload 5, 2) := by decide +kernel
theorem dX11_pushed_60 : decode cX11_pushed 60 = .ok (.ifnull 16, 3) := by decide +kernel
theorem dX11_pushed_63 : decode cX11_pushed 63 = .ok (.aload_n 0, 1) := by decide +kernel
theorem dX11_pushed_64 : decode cX11_pushed 64 = .ok (.getfield 46, 3) := by decide +kernel
theorem dX11_pushed_67 : decode cX11_pushed 67 = .ok (.getfield 101, 3) := by decide +kernel
theorem dX11_pushed_70 : decode cX11_pushed 70 = .ok (.invokevirtual 169, 3) := by decide +kernel
theorem dX11_pushed_73 : decode cX11_pushed 73 = .ok (.ifCond .eq 5, 3) := by decide +kernel
theorem dX11_pushed_76 : decode cX11_pushed 76 = .ok (.iconst (-1), 1) := by decide +kernel
theorem dX11_pushed_77 : decode cX11_pushed 77 = .ok (.ireturn, 1) := by decide +kernel
theorem dX11_pushed_78 : decode cX11_pushed 78 = .ok (.aload_n 0, 1) := by decide +kernel
theorem dX11_pushed_79 : decode cX11_pushed 79 = .ok (.getfield 55, 3) := by decide +kernel
theorem dX11_pushed_82 : decode cX11_pushed 82 = .ok (.aload 5, 2) := by decide +kernel
theorem dX11_pushed_84 : decode cX11_pushed 84 = .ok (.iload_n 1, 1) := by decide +kernel
theorem dX11_pushed_85 : decode cX11_pushed 85 = .ok (.iload_n 2, 1) := by decide +kernel
theorem dX11_pushed_86 : decode cX11_pushed 86 = .ok (.iload_n 3, 1) := by decide +kernel
theorem dX11_pushed_87 : decode cX11_pushed 87 = .ok (.invokevirtual 206, 3) := by decide +kernel
theorem dX11_pushed_90 : decode cX11_pushed 90 = .ok (.aload_n 0, 1) := by decide +kernel
theorem dX11_pushed_91 : decode cX11_pushed 91 = .ok (.getfield 55, 3) := by decide +kernel
theorem dX11_pushed_94 : decode cX11_pushed 94 = .ok (.iload_n 1, 1) := by decide +kernel
theorem dX11_pushed_95 : decode cX11_pushed 95 = .ok (.iconst 2, 1) := by decide +kernel
theorem dX11_pushed_96 : decode cX11_pushed 96 = .ok (.iload_n 2, 1) := by decide +kernel
theorem dX11_pushed_97 : decode cX11_pushed 97 = .ok (.imul, 1) := by decide +kernel
theorem dX11_pushed_98 : decode cX11_pushed 98 = .ok (.iload 4, 2) := by decide +kernel
theorem dX11_pushed_100 : decode cX11_pushed 100 = .ok (.invokevirtual 210, 3) := by decide +kernel
theorem dX11_pushed_103 : decode cX11_pushed 103 = .ok (.ireturn, 1) := by decide +kernel
theorem dX11_led_0 : decode cX11_led 0 = .ok (.aload_n 0, 1) := by decide +kernel
theorem dX11_led_1 : decode cX11_led 1 = .ok (.getfield 46, 3) := by decide +kernel
theorem dX11_led_4 : decode cX11_led 4 = .ok (.getfield 101, 3) := by decide +kernel
theorem dX11_led_7 : decode cX11_led 7 = .ok (.iload_n 1, 1) := by decide +kernel
theorem dX11_led_8 : decode cX11_led 8 = .ok (.invokevirtual 124, 3) := by decide +kernel
theorem dX11_led_11 : decode cX11_led 11 = .ok (.ifCond .eq 12, 3) := by decide +kernel
theorem dX11_led_14 : decode cX11_led 14 = .ok (.iload_n 2, 1) := by decide +kernel
theorem dX11_led_15 : decode cX11_led 15 = .ok (.iconst 0, 1) := by decide +kernel
theorem dX11_led_16 : decode cX11_led 16 = .ok (.iconst 3, 1) := by decide +kernel
theorem dX11_led_17 : decode cX11_led 17 = .ok (.invokestatic 94, 3) := by decide +kernel
theorem dX11_led_20 : decode cX11_led 20 = .ok (.ifCond .ne 5, 3) := by decide +kernel
theorem dX11_led_23 : decode cX11_led 23 = .ok (.iconst (-1), 1) := by decide +kernel
theorem dX11_led_24 : decode cX11_led 24 = .ok (.ireturn, 1) := by decide +kernel
theorem dX11_led_25 : decode cX11_led 25 = .ok (.aload_n 0, 1) := by decide +kernel
theorem dX11_led_26 : decode cX11_led 26 = .ok (.getfield 62, 3) := by decide +kernel
theorem dX11_led_29 : decode cX11_led 29 = .ok (.iload_n 1, 1) := by decide +kernel
theorem dX11_led_30 : decode cX11_led 30 = .ok (.iload_n 2, 1) := by decide +kernel
theorem dX11_led_31 : decode cX11_led 31 = .ok (.invokevirtual 214, 3) := by decide +kernel
theorem dX11_led_34 : decode cX11_led 34 = .ok (.ireturn, 1) := by decide +kernel
theorem dX11_alone_0 : decode cX11_alone 0 = .ok (.iload_n 1, 1) := by decide +kernel
theorem dX11_alone_1 : decode cX11_alone 1 = .ok (.iconst 1, 1) := by decide +kernel
theorem dX11_alone_2 : decode cX11_alone 2 = .ok (.bipush 60, 2) := by decide +kernel
theorem dX11_alone_4 : decode cX11_alone 4 = .ok (.invokestatic 94, 3) := by decide +kernel
theorem dX11_alone_7 : decode cX11_alone 7 = .ok (.ifCond .eq 22, 3) := by decide +kernel
theorem dX11_alone_10 : decode cX11_alone 10 = .ok (.iload_n 2, 1) := by decide +kernel
theorem dX11_alone_11 : decode cX11_alone 11 = .ok (.iconst 1, 1) := by decide +kernel
theorem dX11_alone_12 : decode cX11_alone 12 = .ok (.bipush 20, 2) := by decide +kernel
theorem dX11_alone_14 : decode cX11_alone 14 = .ok (.invokestatic 94, 3) := by decide +kernel
theorem dX11_alone_17 : decode cX11_alone 17 = .ok (.ifCond .eq 12, 3) := by decide +kernel
theorem dX11_alone_20 : decode cX11_alone 20 = .ok (.iload_n 3, 1) := by decide +kernel
theorem dX11_alone_21 : decode cX11_alone 21 = .ok (.iconst 0, 1) := by decide +kernel
theorem dX11_alone_22 : decode cX11_alone 22 = .ok (.iconst 2, 1) := by decide +kernel
theorem dX11_alone_23 : decode cX11_alone 23 = .ok (.invokestatic 94, 3) := by decide +kernel
theorem dX11_alone_26 : decode cX11_alone 26 = .ok (.ifCond .ne 5, 3) := by decide +kernel
theorem dX11_alone_29 : decode cX11_alone 29 = .ok (.iconst (-1), 1) := by decide +kernel
theorem dX11_alone_30 : decode cX11_alone 30 = .ok (.ireturn, 1) := by decide +kernel
theorem dX11_alone_31 : decode cX11_alone 31 = .ok (.aload_n 0, 1) := by decide +kernel
theorem dX11_alone_32 : decode cX11_alone 32 = .ok (.getfield 62, 3) := by decide +kernel
theorem dX11_alone_35 : decode cX11_alone 35 = .ok (.iload_n 1, 1) := by decide +kernel
theorem dX11_alone_36 : decode cX11_alone 36 = .ok (.iload_n 2, 1) := by decide +kernel
theorem dX11_alone_37 : decode cX11_alone 37 = .ok (.iload_n 3, 1) := by decide +kernel
theorem dX11_alone_38 : decode cX11_alone 38 = .ok (.invokevirtual 217, 3) := by decide +kernel
theorem dX11_alone_41 : decode cX11_alone 41 = .ok (.ireturn, 1) := by decide +kernel
theorem dX11_like_0 : decode cX11_like 0 = .ok (.iload_n 1, 1) := by decide +kernel
theorem dX11_like_1 : decode cX11_like 1 = .ok (.iconst 1, 1) := by decide +kernel
theorem dX11_like_2 : decode cX11_like 2 = .ok (.bipush 10, 2) := by decide +kernel
theorem dX11_like_4 : decode cX11_like 4 = .ok (.invokestatic 94, 3) := by decide +kernel
theorem dX11_like_7 : decode cX11_like 7 = .ok (.ifCond .eq 25, 3) := by decide +kernel
theorem dX11_like_10 : decode cX11_like 10 = .ok (.iload_n 2, 1) := by decide +kernel
theorem dX11_like_11 : decode cX11_like 11 = .ok (.iconst 0, 1) := by decide +kernel
theorem dX11_like_12 : decode cX11_like 12 = .ok (.iconst 1, 1) := by decide +kernel
theorem dX11_like_13 : decode cX11_like 13 = .ok (.invokestatic 94, 3) := by decide +kernel
theorem dX11_like_16 : decode cX11_like 16 = .ok (.ifCond .eq 16, 3) := by decide +kernel
theorem dX11_like_19 : decode cX11_like 19 = .ok (.aload_n 0, 1) := by decide +kernel
theorem dX11_like_20 : decode cX11_like 20 = .ok (.getfield 46, 3) := by decide +kernel
theorem dX11_like_23 : decode cX11_like 23 = .ok (.getfield 101, 3) := by decide +kernel
theorem dX11_like_26 : decode cX11_like 26 = .ok (.invokevirtual 169, 3) := by decide +kernel
theorem dX11_like_29 : decode cX11_like 29 = .ok (.ifCond .eq 5, 3) := by decide +kernel
theorem dX11_like_32 : decode cX11_like 32 = .ok (.iconst (-1), 1) := by decide +kernel
theorem dX11_like_33 : decode cX11_like 33 = .ok (.ireturn, 1) := by decide +kernel
theorem dX11_like_34 : decode cX11_like 34 = .ok (.aload_n 0, 1) := by decide +kernel
theorem dX11_like_35 : decode cX11_like 35 = .ok (.getfield 62, 3) := by decide +kernel
theorem dX11_like_38 : decode cX11_like 38 = .ok (.iload_n 1, 1) := by decide +kernel
theorem dX11_like_39 : decode cX11_like 39 = .ok (.invokevirtual 220, 3) := by decide +kernel
theorem dX11_like_42 : decode cX11_like 42 = .ok (.istore_n 3, 1) := by decide +kernel
theorem dX11_like_43 : decode cX11_like 43 = .ok (.iload_n 3, 1) := by decide +kernel
theorem dX11_like_44 : decode cX11_like 44 = .ok (.iconst (-1), 1) := by decide +kernel
theorem dX11_like_45 : decode cX11_like 45 = .ok (.if_icmp .eq 7, 3) := by decide +kernel
theorem dX11_like_48 : decode cX11_like 48 = .ok (.iload_n 2, 1) := by decide +kernel
theorem dX11_like_49 : decode cX11_like 49 = .ok (.ifCond .ne 5, 3) := by decide +kernel
theorem dX11_like_52 : decode cX11_like 52 = .ok (.iload_n 3, 1) := by decide +kernel
theorem dX11_like_53 : decode cX11_like 53 = .ok (.ireturn, 1) := by decide +kernel
theorem dX11_like_54 : decode cX11_like 54 = .ok (.aload_n 0, 1) := by decide +kernel
theorem dX11_like_55 : decode cX11_like 55 = .ok (.getfield 46, 3) := by decide +kernel
theorem dX11_like_58 : decode cX11_like 58 = .ok (.iload_n 3, 1) := by decide +kernel
theorem dX11_like_59 : decode cX11_like 59 = .ok (.iconst 1, 1) := by decide +kernel
theorem dX11_like_60 : decode cX11_like 60 = .ok (.iadd, 1) := by decide +kernel
theorem dX11_like_61 : decode cX11_like 61 = .ok (.invokevirtual 180, 3) := by decide +kernel
theorem dX11_like_64 : decode cX11_like 64 = .ok (.aload_n 0, 1) := by decide +kernel
theorem dX11_like_65 : decode cX11_like 65 = .ok (.getfield 46, 3) := by decide +kernel
theorem dX11_like_68 : decode cX11_like 68 = .ok (.aload_n 0, 1) := by decide +kernel
theorem dX11_like_69 : decode cX11_like 69 = .ok (.getfield 46, 3) := by decide +kernel
theorem dX11_like_72 : decode cX11_like 72 = .ok (.getfield 98, 3) := by decide +kernel
theorem dX11_like_75 : decode cX11_like 75 = .ok (.invokevirtual 180, 3) := by decide +kernel
theorem dX11_like_78 : decode cX11_like 78 = .ok (.iadd, 1) := by decide +kernel
theorem dX11_like_79 : decode cX11_like 79 = .ok (.aload_n 0, 1) := by decide +kernel
theorem dX11_like_80 : decode cX11_like 80 = .ok (.getfield 46, 3) := by decide +kernel
theorem dX11_like_83 : decode cX11_like 83 = .ok (.iload_n 3, 1) := by decide +kernel
theorem dX11_like_84 : decode cX11_like 84 = .ok (.invokevirtual 180, 3) := by decide +kernel
theorem dX11_like_87 : decode cX11_like 87 = .ok (.isub, 1) := by decide +kernel
theorem dX11_like_88 : decode cX11_like 88 = .ok (.ireturn, 1) := by decide +kernel
theorem dX11_street_0 : decode cX11_street 0 = .ok (.iload_n 1, 1) := by decide +kernel
theorem dX11_street_1 : decode cX11_street 1 = .ok (.iconst (-1), 1) := by decide +kernel
theorem dX11_street_2 : decode cX11_street 2 = .ok (.if_icmp .ne 18, 3) := by decide +kernel
theorem dX11_street_5 : decode cX11_street 5 = .ok (.iload_n 2, 1) := by decide +kernel
theorem dX11_street_6 : decode cX11_street 6 = .ok (.ifCond .ne 14, 3) := by decide +kernel
theorem dX11_street_9 : decode cX11_street 9 = .ok (.aload_n 0, 1) := by decide +kernel
theorem dX11_street_10 : decode cX11_street 10 = .ok (.getfield 46, 3) := by decide +kernel
theorem dX11_street_13 : decode cX11_street 13 = .ok (.getfield 101, 3) := by decide +kernel
theorem dX11_street_16 : decode cX11_street 16 = .ok (.invokevirtual 223, 3) := by decide +kernel
theorem dX11_street_19 : decode cX11_street 19 = .ok (.ireturn, 1) := by decide +kernel
theorem dX11_street_20 : decode cX11_street 20 = .ok (.aload_n 0, 1) := by decide +kernel
theorem dX11_street_21 : decode cX11_street 21 = .ok (.getfield 46, 3) := by decide +kernel
theorem dX11_street_24 : decode cX11_street 24 = .ok (.getfield 101, 3) := by decide +kernel
theorem dX11_street_27 : decode cX11_street 27 = .ok (.iload_n 1, 1) := by decide +kernel
theorem dX11_street_28 : decode cX11_street 28 = .ok (.invokevirtual 124, 3) := by decide +kernel
theorem dX11_street_31 : decode cX11_street 31 = .ok (.ifCond .eq 12, 3) := by decide +kernel
theorem dX11_street_34 : decode cX11_street 34 = .ok (.iload_n 2, 1) := by decide +kernel
theorem dX11_street_35 : decode cX11_street 35 = .ok (.iconst 0, 1) := by decide +kernel
theorem dX11_street_36 : decode cX11_street 36 = .ok (.iconst 1, 1) := by decide +kernel
theorem dX11_street_37 : decode cX11_street 37 = .ok (.invokestatic 94, 3) := by decide +kernel
theorem dX11_street_40 : decode cX11_street 40 = .ok (.ifCond .ne 5, 3) := by decide +kernel
theorem dX11_street_43 : decode cX11_street 43 = .ok (.iconst (-1), 1) := by decide +kernel
theorem dX11_street_44 : decode cX11_street 44 = .ok (.ireturn, 1) := by decide +kernel
theorem dX11_street_45 : decode cX11_street 45 = .ok (.aload_n 0, 1) := by decide +kernel
theorem dX11_street_46 : decode cX11_street 46 = .ok (.getfield 46, 3) := by decide +kernel
theorem dX11_street_49 : decode cX11_street 49 = .ok (.getfield 101, 3) := by decide +kernel
theorem dX11_street_52 : decode cX11_street 52 = .ok (.iload_n 1, 1) := by decide +kernel
theorem dX11_street_53 : decode cX11_street 53 = .ok (.invokevirtual 226, 3) := by decide +kernel
theorem dX11_street_56 : decode cX11_street 56 = .ok (.istore_n 3, 1) := by decide +kernel
theorem dX11_street_57 : decode cX11_street 57 = .ok (.iload_n 2, 1) := by decide +kernel
theorem dX11_street_58 : decode cX11_street 58 = .ok (.ifCond .ne 17, 3) := by decide +kernel
theorem dX11_street_61 : decode cX11_street 61 = .ok (.aload_n 0, 1) := by decide +kernel
theorem dX11_street_62 : decode cX11_street 62 = .ok (.getfield 46, 3) := by decide +kernel
theorem dX11_street_65 : decode cX11_street 65 = .ok (.getfield 101, 3) := by decide +kernel
theorem dX11_street_68 : decode cX11_street 68 = .ok (.iload_n 3, 1) := by decide +kernel
theorem dX11_street_69 : decode cX11_street 69 = .ok (.invokevirtual 229, 3) := by decide +kernel
theorem dX11_street_72 : decode cX11_street 72 = .ok (.goto 11, 3) := by decide +kernel
theorem dX11_street_75 : decode cX11_street 75 = .ok (.aload_n 0, 1) := by decide +kernel
theorem dX11_street_76 : decode cX11_street 76 = .ok (.getfield 46, 3) := by decide +kernel
theorem dX11_street_79 : decode cX11_street 79 = .ok (.iload_n 3, 1) := by decide +kernel
theorem dX11_street_80 : decode cX11_street 80 = .ok (.invokevirtual 232, 3) := by decide +kernel
theorem dX11_street_83 : decode cX11_street 83 = .ok (.ireturn, 1) := by decide +kernel
theorem dX11_followed_0 : decode cX11_followed 0 = .ok (.iload_n 1, 1) := by decide +kernel
theorem dX11_followed_1 : decode cX11_followed 1 = .ok (.invokestatic 131, 3) := by decide +kernel
theorem dX11_followed_4 : decode cX11_followed 4 = .ok (.ifCond .eq 12, 3) := by decide +kernel
theorem dX11_followed_7 : decode cX11_followed 7 = .ok (.iload_n 2, 1) := by decide +kernel
theorem dX11_followed_8 : decode cX11_followed 8 = .ok (.iconst 0, 1) := by decide +kernel
theorem dX11_followed_9 : decode cX11_followed 9 = .ok (.iconst 1, 1) := by decide +kernel
theorem dX11_followed_10 : decode cX11_followed 10 = .ok (.invokestatic 94, 3) := by decide +kernel
theorem dX11_followed_13 : decode cX11_followed 13 = .ok (.ifCond .ne 5, 3) := by decide +kernel
theorem dX11_followed_16 : decode cX11_followed 16 = .ok (.iconst (-1), 1) := by decide +kernel
theorem dX11_followed_17 : decode cX11_followed 17 = .ok (.ireturn, 1) := by decide +kernel
theorem dX11_followed_18 : decode cX11_followed 18 = .ok (.iload_n 2, 1) := by decide +kernel
theorem dX11_followed_19 : decode cX11_followed 19 = .ok (.ifCond .ne 14, 3) := by decide +kernel
theorem dX11_followed_22 : decode cX11_followed 22 = .ok (.aload_n 0, 1) := by decide +kernel
theorem dX11_followed_23 : decode cX11_followed 23 = .ok (.getfield 69, 3) := by decide +kernel
theorem dX11_followed_26 : decode cX11_followed 26 = .ok (.iload_n 1, 1) := by decide +kernel
theorem dX11_followed_27 : decode cX11_followed 27 = .ok (.invokevirtual 235, 3) := by decide +kernel
theorem dX11_followed_30 : decode cX11_followed 30 = .ok (.goto 11, 3) := by decide +kernel
theorem dX11_followed_33 : decode cX11_followed 33 = .ok (.aload_n 0, 1) := by decide +kernel
theorem dX11_followed_34 : decode cX11_followed 34 = .ok (.getfield 69, 3) := by decide +kernel
theorem dX11_followed_37 : decode cX11_followed 37 = .ok (.iload_n 1, 1) := by decide +kernel
theorem dX11_followed_38 : decode cX11_followed 38 = .ok (.invokevirtual 238, 3) := by decide +kernel
theorem dX11_followed_41 : decode cX11_followed 41 = .ok (.ireturn, 1) := by decide +kernel
theorem dX11_luck_0 : decode cX11_luck 0 = .ok (.iload_n 1, 1) := by decide +kernel
theorem dX11_luck_1 : decode cX11_luck 1 = .ok (.invokestatic 131, 3) := by decide +kernel
theorem dX11_luck_4 : decode cX11_luck 4 = .ok (.ifCond .eq 23, 3) := by decide +kernel
theorem dX11_luck_7 : decode cX11_luck 7 = .ok (.iload_n 2, 1) := by decide +kernel
theorem dX11_luck_8 : decode cX11_luck 8 = .ok (.iconst 0, 1) := by decide +kernel
theorem dX11_luck_9 : decode cX11_luck 9 = .ok (.iconst 1, 1) := by decide +kernel
theorem dX11_luck_10 : decode cX11_luck 10 = .ok (.invokestatic 94, 3) := by decide +kernel
theorem dX11_luck_13 : decode cX11_luck 13 = .ok (.ifCond .eq 14, 3) := by decide +kernel
theorem dX11_luck_16 : decode cX11_luck 16 = .ok (.aload_n 0, 1) := by decide +kernel
theorem dX11_luck_17 : decode cX11_luck 17 = .ok (.getfield 69, 3) := by decide +kernel
theorem dX11_luck_20 : decode cX11_luck 20 = .ok (.iload_n 1, 1) := by decide +kernel
theorem dX11_luck_21 : decode cX11_luck 21 = .ok (.invokevirtual 238, 3) := by decide +kernel
theorem dX11_luck_24 : decode cX11_luck 24 = .ok (.ifCond .ne 7, 3) := by decide +kernel
theorem dX11_luck_27 : decode cX11_luck 27 = .ok (.ldc2_w 241, 3) := by decide +kernel
theorem dX11_luck_30 : decode cX11_luck 30 = .ok (.lreturn, 1) := by decide +kernel
theorem dX11_luck_31 : decode cX11_luck 31 = .ok (.aload_n 0, 1) := by decide +kernel
theorem dX11_luck_32 : decode cX11_luck 32 = .ok (.getfield 69, 3) := by decide +kernel
theorem dX11_luck_35 : decode cX11_luck 35 = .ok (.iload_n 1, 1) := by decide +kernel
theorem dX11_luck_36 : decode cX11_luck 36 = .ok (.iload_n 2, 1) := by decide +kernel
theorem dX11_luck_37 : decode cX11_luck 37 = .ok (.iconst 1, 1) := by decide +kernel
theorem dX11_luck_38 : decode cX11_luck 38 = .ok (.if_icmp .ne 7, 3) := by decide +kernel
theorem dX11_luck_41 : decode cX11_luck 41 = .ok (.iconst 1, 1) := by decide +kernel
theorem dX11_luck_42 : decode cX11_luck 42 = .ok (.goto 4, 3) := by decide +kernel
theorem dX11_luck_45 : decode cX11_luck 45 = .ok (.iconst 0, 1) := by decide +kernel
theorem dX11_luck_46 : decode cX11_luck 46 = .ok (.invokevirtual 243, 3) := by decide +kernel
theorem dX11_luck_49 : decode cX11_luck 49 = .ok (.lreturn, 1) := by decide +kernel
theorem dX11_claim_0 : decode cX11_claim 0 = .ok (.iload_n 1, 1) := by decide +kernel
theorem dX11_claim_1 : decode cX11_claim 1 = .ok (.iconst 0, 1) := by decide +kernel
theorem dX11_claim_2 : decode cX11_claim 2 = .ok (.bipush 9, 2) := by decide +kernel
theorem dX11_claim_4 : decode cX11_claim 4 = .ok (.invokestatic 94, 3) := by decide +kernel
theorem dX11_claim_7 : decode cX11_claim 7 = .ok (.ifCond .eq 12, 3) := by decide +kernel
theorem dX11_claim_10 : decode cX11_claim 10 = .ok (.iload_n 2, 1) := by decide +kernel
theorem dX11_claim_11 : decode cX11_claim 11 = .ok (.iconst 0, 1) := by decide +kernel
theorem dX11_claim_12 : decode cX11_claim 12 = .ok (.iconst 2, 1) := by decide +kernel
theorem dX11_claim_13 : decode cX11_claim 13 = .ok (.invokestatic 94, 3) := by decide +kernel
theorem dX11_claim_16 : decode cX11_claim 16 = .ok (.ifCond .ne 7, 3) := by decide +kernel
theorem dX11_claim_19 : decode cX11_claim 19 = .ok (.ldc2_w 241, 3) := by decide +kernel
theorem dX11_claim_22 : decode cX11_claim 22 = .ok (.lreturn, 1) := by decide +kernel
theorem dX11_claim_23 : decode cX11_claim 23 = .ok (.aload_n 0, 1) := by decide +kernel
theorem dX11_claim_24 : decode cX11_claim 24 = .ok (.getfield 69, 3) := by decide +kernel
theorem dX11_claim_27 : decode cX11_claim 27 = .ok (.iload_n 1, 1) := by decide +kernel
theorem dX11_claim_28 : decode cX11_claim 28 = .ok (.invokevirtual 247, 3) := by decide +kernel
theorem dX11_claim_31 : decode cX11_claim 31 = .ok (.iload_n 2, 1) := by decide +kernel
theorem dX11_claim_32 : decode cX11_claim 32 = .ok (.iconst 2, 1) := by decide +kernel
theorem dX11_claim_33 : decode cX11_claim 33 = .ok (.if_icmp .ne 11, 3) := by decide +kernel
theorem dX11_claim_36 : decode cX11_claim 36 = .ok (.aload_n 0, 1) := by decide +kernel
theorem dX11_claim_37 : decode cX11_claim 37 = .ok (.getfield 69, 3) := by decide +kernel
theorem dX11_claim_40 : decode cX11_claim 40 = .ok (.invokevirtual 250, 3) := by decide +kernel
theorem dX11_claim_43 : decode cX11_claim 43 = .ok (.lreturn, 1) := by decide +kernel
theorem dX11_claim_44 : decode cX11_claim 44 = .ok (.iload_n 2, 1) := by decide +kernel
theorem dX11_claim_45 : decode cX11_claim 45 = .ok (.ifCond .ne 14, 3) := by decide +kernel
theorem dX11_claim_48 : decode cX11_claim 48 = .ok (.aload_n 0, 1) := by decide +kernel
theorem dX11_claim_49 : decode cX11_claim 49 = .ok (.getfield 69, 3) := by decide +kernel
theorem dX11_claim_52 : decode cX11_claim 52 = .ok (.getfield 254, 3) := by decide +kernel
theorem dX11_claim_55 : decode cX11_claim 55 = .ok (.i2l, 1) := by decide +kernel
theorem dX11_claim_56 : decode cX11_claim 56 = .ok (.goto 11, 3) := by decide +kernel
theorem dX11_claim_59 : decode cX11_claim 59 = .ok (.aload_n 0, 1) := by decide +kernel
theorem dX11_claim_60 : decode cX11_claim 60 = .ok (.getfield 69, 3) := by decide +kernel
theorem dX11_claim_63 : decode cX11_claim 63 = .ok (.getfield 257, 3) := by decide +kernel
theorem dX11_claim_66 : decode cX11_claim 66 = .ok (.i2l, 1) := by decide +kernel
theorem dX11_claim_67 : decode cX11_claim 67 = .ok (.lreturn, 1) := by decide +kernel
theorem dX11_best_0 : decode cX11_best 0 = .ok (.aload_n 0, 1) := by decide +kernel
theorem dX11_best_1 : decode cX11_best 1 = .ok (.getfield 69, 3) := by decide +kernel
theorem dX11_best_4 : decode cX11_best 4 = .ok (.invokevirtual 260, 3) := by decide +kernel
theorem dX11_best_7 : decode cX11_best 7 = .ok (.ireturn, 1) := by decide +kernel
theorem dX11_plate_0 : decode cX11_plate 0 = .ok (.iload_n 1, 1) := by decide +kernel
theorem dX11_plate_1 : decode cX11_plate 1 = .ok (.iconst 0, 1) := by decide +kernel
theorem dX11_plate_2 : decode cX11_plate 2 = .ok (.iconst 3, 1) := by decide +kernel
theorem dX11_plate_3 : decode cX11_plate 3 = .ok (.invokestatic 94, 3) := by decide +kernel
theorem dX11_plate_6 : decode cX11_plate 6 = .ok (.ifCond .eq 28, 3) := by decide +kernel
theorem dX11_plate_9 : decode cX11_plate 9 = .ok (.iload_n 2, 1) := by decide +kernel
theorem dX11_plate_10 : decode cX11_plate 10 = .ok (.iconst 0, 1) := by decide +kernel
theorem dX11_plate_11 : decode cX11_plate 11 = .ok (.sipush 200, 3) := by decide +kernel
theorem dX11_plate_14 : decode cX11_plate 14 = .ok (.invokestatic 94, 3) := by decide +kernel
theorem dX11_plate_17 : decode cX11_plate 17 = .ok (.ifCond .eq 17, 3) := by decide +kernel
theorem dX11_plate_20 : decode cX11_plate 20 = .ok (.iload_n 3, 1) := by decide +kernel
theorem dX11_plate_21 : decode cX11_plate 21 = .ok (.iconst 0, 1) := by decide +kernel
theorem dX11_plate_22 : decode cX11_plate 22 = .ok (.bipush 60, 2) := by decide +kernel
theorem dX11_plate_24 : decode cX11_plate 24 = .ok (.invokestatic 94, 3) := by decide +kernel
theorem dX11_plate_27 : decode cX11_plate 27 = .ok (.ifCond .eq 7, 3) := by decide +kernel
theorem dX11_plate_30 : decode cX11_plate 30 = .ok (.iconst 1, 1) := by decide +kernel
theorem dX11_plate_31 : decode cX11_plate 31 = .ok (.goto 4, 3) := by decide +kernel
theorem dX11_plate_34 : decode cX11_plate 34 = .ok (.iconst 0, 1) := by decide +kernel
theorem dX11_plate_35 : decode cX11_plate 35 = .ok (.istore 4, 2) := by decide +kernel
theorem dX11_plate_37 : decode cX11_plate 37 = .ok (.iload 4, 2) := by decide +kernel
theorem dX11_plate_39 : decode cX11_plate 39 = .ok (.ifCond .eq 16, 3) := by decide +kernel
theorem dX11_plate_42 : decode cX11_plate 42 = .ok (.aload_n 0, 1) := by decide +kernel
theorem dX11_plate_43 : decode cX11_plate 43 = .ok (.getfield 76, 3) := by decide +kernel
theorem dX11_plate_46 : decode cX11_plate 46 = .ok (.iload_n 1, 1) := by decide +kernel
theorem dX11_plate_47 : decode cX11_plate 47 = .ok (.iload_n 2, 1) := by decide +kernel
theorem dX11_plate_48 : decode cX11_plate 48 = .ok (.iload_n 3, 1) := by decide +kernel
theorem dX11_plate_49 : decode cX11_plate 49 = .ok (.invokevirtual 263, 3) := by decide +kernel
theorem dX11_plate_52 : decode cX11_plate 52 = .ok (.goto 4, 3) := by decide +kernel
theorem dX11_plate_55 : decode cX11_plate 55 = .ok (.iconst (-1), 1) := by decide +kernel
theorem dX11_plate_56 : decode cX11_plate 56 = .ok (.ireturn, 1) := by decide +kernel
theorem dX11_off_0 : decode cX11_off 0 = .ok (.iload_n 1, 1) := by decide +kernel
theorem dX11_off_1 : decode cX11_off 1 = .ok (.iconst 0, 1) := by decide +kernel
theorem dX11_off_2 : decode cX11_off 2 = .ok (.iconst 3, 1) := by decide +kernel
theorem dX11_off_3 : decode cX11_off 3 = .ok (.invokestatic 94, 3) := by decide +kernel
theorem dX11_off_6 : decode cX11_off 6 = .ok (.ifCond .eq 25, 3) := by decide +kernel
theorem dX11_off_9 : decode cX11_off 9 = .ok (.iload_n 2, 1) := by decide +kernel
theorem dX11_off_10 : decode cX11_off 10 = .ok (.iconst 0, 1) := by decide +kernel
theorem dX11_off_11 : decode cX11_off 11 = .ok (.iconst 2, 1) := by decide +kernel
theorem dX11_off_12 : decode cX11_off 12 = .ok (.invokestatic 94, 3) := by decide +kernel
theorem dX11_off_15 : decode cX11_off 15 = .ok (.ifCond .eq 16, 3) := by decide +kernel
theorem dX11_off_18 : decode cX11_off 18 = .ok (.aload_n 0, 1) := by decide +kernel
theorem dX11_off_19 : decode cX11_off 19 = .ok (.getfield 46, 3) := by decide +kernel
theorem dX11_off_22 : decode cX11_off 22 = .ok (.getfield 101, 3) := by decide +kernel
theorem dX11_off_25 : decode cX11_off 25 = .ok (.invokevirtual 169, 3) := by decide +kernel
theorem dX11_off_28 : decode cX11_off 28 = .ok (.ifCond .eq 5, 3) := by decide +kernel
theorem dX11_off_31 : decode cX11_off 31 = .ok (.iconst (-1), 1) := by decide +kernel
theorem dX11_off_32 : decode cX11_off 32 = .ok (.ireturn, 1) := by decide +kernel
theorem dX11_off_33 : decode cX11_off 33 = .ok (.aload_n 0, 1) := by decide +kernel
theorem dX11_off_34 : decode cX11_off 34 = .ok (.getfield 76, 3) := by decide +kernel
theorem dX11_off_37 : decode cX11_off 37 = .ok (.iload_n 1, 1) := by decide +kernel
theorem dX11_off_38 : decode cX11_off 38 = .ok (.iload_n 2, 1) := by decide +kernel
theorem dX11_off_39 : decode cX11_off 39 = .ok (.invokevirtual 266, 3) := by decide +kernel
theorem dX11_off_42 : decode cX11_off 42 = .ok (.ireturn, 1) := by decide +kernel
theorem dX11_again_0 : decode cX11_again 0 = .ok (.iload_n 1, 1) := by decide +kernel
theorem dX11_again_1 : decode cX11_again 1 = .ok (.iconst 0, 1) := by decide +kernel
theorem dX11_again_2 : decode cX11_again 2 = .ok (.bipush 60, 2) := by decide +kernel
theorem dX11_again_4 : decode cX11_again 4 = .ok (.invokestatic 94, 3) := by decide +kernel
theorem dX11_again_7 : decode cX11_again 7 = .ok (.ifCond .eq 25, 3) := by decide +kernel
theorem dX11_again_10 : decode cX11_again 10 = .ok (.iload_n 2, 1) := by decide +kernel
theorem dX11_again_11 : decode cX11_again 11 = .ok (.iconst 0, 1) := by decide +kernel
theorem dX11_again_12 : decode cX11_again 12 = .ok (.iconst 2, 1) := by decide +kernel
theorem dX11_again_13 : decode cX11_again 13 = .ok (.invokestatic 94, 3) := by decide +kernel
theorem dX11_again_16 : decode cX11_again 16 = .ok (.ifCond .eq 16, 3) := by decide +kernel
theorem dX11_again_19 : decode cX11_again 19 = .ok (.aload_n 0, 1) := by decide +kernel
theorem dX11_again_20 : decode cX11_again 20 = .ok (.getfield 46, 3) := by decide +kernel
theorem dX11_again_23 : decode cX11_again 23 = .ok (.getfield 101, 3) := by decide +kernel
theorem dX11_again_26 : decode cX11_again 26 = .ok (.invokevirtual 169, 3) := by decide +kernel
theorem dX11_again_29 : decode cX11_again 29 = .ok (.ifCond .eq 5, 3) := by decide +kernel
theorem dX11_again_32 : decode cX11_again 32 = .ok (.iconst (-1), 1) := by decide +kernel
theorem dX11_again_33 : decode cX11_again 33 = .ok (.ireturn, 1) := by decide +kernel
theorem dX11_again_34 : decode cX11_again 34 = .ok (.aload_n 0, 1) := by decide +kernel
theorem dX11_again_35 : decode cX11_again 35 = .ok (.getfield 62, 3) := by decide +kernel
theorem dX11_again_38 : decode cX11_again 38 = .ok (.iload_n 1, 1) := by decide +kernel
theorem dX11_again_39 : decode cX11_again 39 = .ok (.iload_n 2, 1) := by decide +kernel
theorem dX11_again_40 : decode cX11_again 40 = .ok (.invokevirtual 269, 3) := by decide +kernel
theorem dX11_again_43 : decode cX11_again 43 = .ok (.ireturn, 1) := by decide +kernel
theorem dX11_foretell_0 : decode cX11_foretell 0 = .ok (.aload_n 0, 1) := by decide +kernel
theorem dX11_foretell_1 : decode cX11_foretell 1 = .ok (.invokevirtual 165, 3) := by decide +kernel
theorem dX11_foretell_4 : decode cX11_foretell 4 = .ok (.astore_n 2, 1) := by decide +kernel
theorem dX11_foretell_5 : decode cX11_foretell 5 = .ok (.iload_n 1, 1) := by decide +kernel
theorem dX11_foretell_6 : decode cX11_foretell 6 = .ok (.iconst 1, 1) := by decide +kernel
theorem dX11_foretell_7 : decode cX11_foretell 7 = .ok (.bipush 50, 2) := by decide +kernel
theorem dX11_foretell_9 : decode cX11_foretell 9 = .ok (.invokestatic 94, 3) := by decide +kernel
theorem dX11_foretell_12 : decode cX11_foretell 12 = .ok (.ifCond .eq 20, 3) := by decide +kernel
theorem dX11_foretell_15 : decode cX11_foretell 15 = .ok (.aload_n 2, 1) := by decide +kernel
theorem dX11_foretell_16 : decode cX11_foretell 16 = .ok (.ifnull 16, 3) := by decide +kernel
theorem dX11_foretell_19 : decode cX11_foretell 19 = .ok (.aload_n 0, 1) := by decide +kernel
theorem dX11_foretell_20 : decode cX11_foretell 20 = .ok (.getfield 46, 3) := by decide +kernel
theorem dX11_foretell_23 : decode cX11_foretell 23 = .ok (.getfield 101, 3) := by decide +kernel
theorem dX11_foretell_26 : decode cX11_foretell 26 = .ok (.invokevirtual 169, 3) := by decide +kernel
theorem dX11_foretell_29 : decode cX11_foretell 29 = .ok (.ifCond .eq 5, 3) := by decide +kernel
theorem dX11_foretell_32 : decode cX11_foretell 32 = .ok (.iconst (-1), 1) := by decide +kernel
theorem dX11_foretell_33 : decode cX11_foretell 33 = .ok (.ireturn, 1) := by decide +kernel
theorem dX11_foretell_34 : decode cX11_foretell 34 = .ok (.aload_n 0, 1) := by decide +kernel
theorem dX11_foretell_35 : decode cX11_foretell 35 = .ok (.getfield 55, 3) := by decide +kernel
theorem dX11_foretell_38 : decode cX11_foretell 38 = .ok (.aload_n 2, 1) := by decide +kernel
theorem dX11_foretell_39 : decode cX11_foretell 39 = .ok (.iload_n 1, 1) := by decide +kernel
theorem dX11_foretell_40 : decode cX11_foretell 40 = .ok (.iconst 1, 1) := by decide +kernel
theorem dX11_foretell_41 : decode cX11_foretell 41 = .ok (.iconst (-1), 1) := by decide +kernel
theorem dX11_foretell_42 : decode cX11_foretell 42 = .ok (.invokevirtual 206, 3) := by decide +kernel
theorem dX11_foretell_45 : decode cX11_foretell 45 = .ok (.aload_n 0, 1) := by decide +kernel
theorem dX11_foretell_46 : decode cX11_foretell 46 = .ok (.getfield 46, 3) := by decide +kernel
theorem dX11_foretell_49 : decode cX11_foretell 49 = .ok (.getfield 98, 3) := by decide +kernel
theorem dX11_foretell_52 : decode cX11_foretell 52 = .ok (.iload_n 1, 1) := by decide +kernel
theorem dX11_foretell_53 : decode cX11_foretell 53 = .ok (.iadd, 1) := by decide +kernel
theorem dX11_foretell_54 : decode cX11_foretell 54 = .ok (.istore_n 3, 1) := by decide +kernel
theorem dX11_foretell_55 : decode cX11_foretell 55 = .ok (.aload_n 0, 1) := by decide +kernel
theorem dX11_foretell_56 : decode cX11_foretell 56 = .ok (.getfield 46, 3) := by decide +kernel
theorem dX11_foretell_59 : decode cX11_foretell 59 = .ok (.iload_n 3, 1) := by decide +kernel
theorem dX11_foretell_60 : decode cX11_foretell 60 = .ok (.aload_n 0, 1) := by decide +kernel
theorem dX11_foretell_61 : decode cX11_foretell 61 = .ok (.getfield 46, 3) := by decide +kernel
theorem dX11_foretell_64 : decode cX11_foretell 64 = .ok (.iload_n 3, 1) := by decide +kernel
theorem dX11_foretell_65 : decode cX11_foretell 65 = .ok (.invokevirtual 180, 3) := by decide +kernel
theorem dX11_foretell_68 : decode cX11_foretell 68 = .ok (.aload_n 0, 1) := by decide +kernel
theorem dX11_foretell_69 : decode cX11_foretell 69 = .ok (.getfield 46, 3) := by decide +kernel
theorem dX11_foretell_72 : decode cX11_foretell 72 = .ok (.aload_n 0, 1) := by decide +kernel
theorem dX11_foretell_73 : decode cX11_foretell 73 = .ok (.getfield 46, 3) := by decide +kernel
theorem dX11_foretell_76 : decode cX11_foretell 76 = .ok (.getfield 98, 3) := by decide +kernel
theorem dX11_foretell_79 : decode cX11_foretell 79 = .ok (.invokevirtual 180, 3) := by decide +kernel
theorem dX11_foretell_82 : decode cX11_foretell 82 = .ok (.invokevirtual 272, 3) := by decide +kernel
theorem dX11_foretell_85 : decode cX11_foretell 85 = .ok (.ireturn, 1) := by decide +kernel
theorem dX11_held_0 : decode cX11_held 0 = .ok (.iload_n 1, 1) := by decide +kernel
theorem dX11_held_1 : decode cX11_held 1 = .ok (.iconst 0, 1) := by decide +kernel
theorem dX11_held_2 : decode cX11_held 2 = .ok (.aload_n 0, 1) := by decide +kernel
theorem dX11_held_3 : decode cX11_held 3 = .ok (.getfield 46, 3) := by decide +kernel
theorem dX11_held_6 : decode cX11_held 6 = .ok (.getfield 275, 3) := by decide +kernel
theorem dX11_held_9 : decode cX11_held 9 = .ok (.iconst 1, 1) := by decide +kernel
theorem dX11_held_10 : decode cX11_held 10 = .ok (.isub, 1) := by decide +kernel
theorem dX11_held_11 : decode cX11_held 11 = .ok (.invokestatic 94, 3) := by decide +kernel
theorem dX11_held_14 : decode cX11_held 14 = .ok (.ifCond .eq 12, 3) := by decide +kernel
theorem dX11_held_17 : decode cX11_held 17 = .ok (.iload_n 2, 1) := by decide +kernel
theorem dX11_held_18 : decode cX11_held 18 = .ok (.iconst 0, 1) := by decide +kernel
theorem dX11_held_19 : decode cX11_held 19 = .ok (.iconst 3, 1) := by decide +kernel
theorem dX11_held_20 : decode cX11_held 20 = .ok (.invokestatic 94, 3) := by decide +kernel
theorem dX11_held_23 : decode cX11_held 23 = .ok (.ifCond .ne 6, 3) := by decide +kernel
theorem dX11_held_26 : decode cX11_held 26 = .ok (.bipush (-2), 2) := by decide +kernel
theorem dX11_held_28 : decode cX11_held 28 = .ok (.ireturn, 1) := by decide +kernel
theorem dX11_held_29 : decode cX11_held 29 = .ok (.aload_n 0, 1) := by decide +kernel
theorem dX11_held_30 : decode cX11_held 30 = .ok (.getfield 46, 3) := by decide +kernel
theorem dX11_held_33 : decode cX11_held 33 = .ok (.getfield 278, 3) := by decide +kernel
theorem dX11_held_36 : decode cX11_held 36 = .ok (.iload_n 1, 1) := by decide +kernel
theorem dX11_held_37 : decode cX11_held 37 = .ok (.iaload, 1) := by decide +kernel
theorem dX11_held_38 : decode cX11_held 38 = .ok (.istore_n 3, 1) := by decide +kernel
theorem dX11_held_39 : decode cX11_held 39 = .ok (.iload_n 2, 1) := by decide +kernel
theorem dX11_held_40 : decode cX11_held 40 = .ok (.iconst 2, 1) := by decide +kernel
theorem dX11_held_41 : decode cX11_held 41 = .ok (.if_icmp .ge 21, 3) := by decide +kernel
theorem dX11_held_44 : decode cX11_held 44 = .ok (.iload_n 2, 1) := by decide +kernel
theorem dX11_held_45 : decode cX11_held 45 = .ok (.ifCond .ne 15, 3) := by decide +kernel
theorem dX11_held_48 : decode cX11_held 48 = .ok (.aload_n 0, 1) := by decide +kernel
theorem dX11_held_49 : decode cX11_held 49 = .ok (.getfield 46, 3) := by decide +kernel
theorem dX11_held_52 : decode cX11_held 52 = .ok (.getfield 281, 3) := by decide +kernel
theorem dX11_held_55 : decode cX11_held 55 = .ok (.iload_n 1, 1) := by decide +kernel
theorem dX11_held_56 : decode cX11_held 56 = .ok (.iaload, 1) := by decide +kernel
theorem dX11_held_57 : decode cX11_held 57 = .ok (.goto 4, 3) := by decide +kernel
theorem dX11_held_60 : decode cX11_held 60 = .ok (.iload_n 3, 1) := by decide +kernel
theorem dX11_held_61 : decode cX11_held 61 = .ok (.ireturn, 1) := by decide +kernel
theorem dX11_held_62 : decode cX11_held 62 = .ok (.aload_n 0, 1) := by decide +kernel
theorem dX11_held_63 : decode cX11_held 63 = .ok (.getfield 46, 3) := by decide +kernel
theorem dX11_held_66 : decode cX11_held 66 = .ok (.iload_n 3, 1) := by decide +kernel
theorem dX11_held_67 : decode cX11_held 67 = .ok (.invokevirtual 177, 3) := by decide +kernel
theorem dX11_held_70 : decode cX11_held 70 = .ok (.ifCond .ne 5, 3) := by decide +kernel
theorem dX11_held_73 : decode cX11_held 73 = .ok (.iconst (-1), 1) := by decide +kernel
theorem dX11_held_74 : decode cX11_held 74 = .ok (.ireturn, 1) := by decide +kernel
theorem dX11_held_75 : decode cX11_held 75 = .ok (.iload_n 2, 1) := by decide +kernel
theorem dX11_held_76 : decode cX11_held 76 = .ok (.iconst 2, 1) := by decide +kernel
theorem dX11_held_77 : decode cX11_held 77 = .ok (.if_icmp .ne 15, 3) := by decide +kernel
theorem dX11_held_80 : decode cX11_held 80 = .ok (.aload_n 0, 1) := by decide +kernel
theorem dX11_held_81 : decode cX11_held 81 = .ok (.getfield 46, 3) := by decide +kernel
theorem dX11_held_84 : decode cX11_held 84 = .ok (.getfield 281, 3) := by decide +kernel
theorem dX11_held_87 : decode cX11_held 87 = .ok (.iload_n 1, 1) := by decide +kernel
theorem dX11_held_88 : decode cX11_held 88 = .ok (.iaload, 1) := by decide +kernel
theorem dX11_held_89 : decode cX11_held 89 = .ok (.goto 12, 3) := by decide +kernel
theorem dX11_held_92 : decode cX11_held 92 = .ok (.aload_n 0, 1) := by decide +kernel
theorem dX11_held_93 : decode cX11_held 93 = .ok (.getfield 46, 3) := by decide +kernel
theorem dX11_held_96 : decode cX11_held 96 = .ok (.getfield 284, 3) := by decide +kernel
theorem dX11_held_99 : decode cX11_held 99 = .ok (.iload_n 1, 1) := by decide +kernel
theorem dX11_held_100 : decode cX11_held 100 = .ok (.iaload, 1) := by decide +kernel
theorem dX11_held_101 : decode cX11_held 101 = .ok (.istore 4, 2) := by decide +kernel
theorem dX11_held_103 : decode cX11_held 103 = .ok (.iload 4, 2) := by decide +kernel
theorem dX11_held_105 : decode cX11_held 105 = .ok (.aload_n 0, 1) := by decide +kernel
theorem dX11_held_106 : decode cX11_held 106 = .ok (.getfield 46, 3) := by decide +kernel
theorem dX11_held_109 : decode cX11_held 109 = .ok (.iload_n 3, 1) := by decide +kernel
theorem dX11_held_110 : decode cX11_held 110 = .ok (.invokevirtual 180, 3) := by decide +kernel
theorem dX11_held_113 : decode cX11_held 113 = .ok (.isub, 1) := by decide +kernel
theorem dX11_held_114 : decode cX11_held 114 = .ok (.invokestatic 287, 3) := by decide +kernel
theorem dX11_held_117 : decode cX11_held 117 = .ok (.ireturn, 1) := by decide +kernel
theorem dX11_behind_0 : decode cX11_behind 0 = .ok (.iload_n 1, 1) := by decide +kernel
theorem dX11_behind_1 : decode cX11_behind 1 = .ok (.iconst 0, 1) := by decide +kernel
theorem dX11_behind_2 : decode cX11_behind 2 = .ok (.bipush 99, 2) := by decide +kernel
theorem dX11_behind_4 : decode cX11_behind 4 = .ok (.invokestatic 94, 3) := by decide +kernel
theorem dX11_behind_7 : decode cX11_behind 7 = .ok (.ifCond .eq 25, 3) := by decide +kernel
theorem dX11_behind_10 : decode cX11_behind 10 = .ok (.iload_n 2, 1) := by decide +kernel
theorem dX11_behind_11 : decode cX11_behind 11 = .ok (.iconst 0, 1) := by decide +kernel
theorem dX11_behind_12 : decode cX11_behind 12 = .ok (.iconst 3, 1) := by decide +kernel
theorem dX11_behind_13 : decode cX11_behind 13 = .ok (.invokestatic 94, 3) := by decide +kernel
theorem dX11_behind_16 : decode cX11_behind 16 = .ok (.ifCond .eq 16, 3) := by decide +kernel
theorem dX11_behind_19 : decode cX11_behind 19 = .ok (.aload_n 0, 1) := by decide +kernel
theorem dX11_behind_20 : decode cX11_behind 20 = .ok (.getfield 46, 3) := by decide +kernel
theorem dX11_behind_23 : decode cX11_behind 23 = .ok (.getfield 101, 3) := by decide +kernel
theorem dX11_behind_26 : decode cX11_behind 26 = .ok (.invokevirtual 169, 3) := by decide +kernel
theorem dX11_behind_29 : decode cX11_behind 29 = .ok (.ifCond .eq 5, 3) := by decide +kernel
theorem dX11_behind_32 : decode cX11_behind 32 = .ok (.iconst (-1), 1) := by decide +kernel
theorem dX11_behind_33 : decode cX11_behind 33 = .ok (.ireturn, 1) := by decide +kernel
theorem dX11_behind_34 : decode cX11_behind 34 = .ok (.aload_n 0, 1) := by decide +kernel
theorem dX11_behind_35 : decode cX11_behind 35 = .ok (.getfield 62, 3) := by decide +kernel
theorem dX11_behind_38 : decode cX11_behind 38 = .ok (.iload_n 1, 1) := by decide +kernel
theorem dX11_behind_39 : decode cX11_behind 39 = .ok (.iload_n 2, 1) := by decide +kernel
theorem dX11_behind_40 : decode cX11_behind 40 = .ok (.iconst 2, 1) := by decide +kernel
theorem dX11_behind_41 : decode cX11_behind 41 = .ok (.if_icmp .lt 7, 3) := by decide +kernel
theorem dX11_behind_44 : decode cX11_behind 44 = .ok (.iconst 1, 1) := by decide +kernel
theorem dX11_behind_45 : decode cX11_behind 45 = .ok (.goto 4, 3) := by decide +kernel
theorem dX11_behind_48 : decode cX11_behind 48 = .ok (.iconst 0, 1) := by decide +kernel
theorem dX11_behind_49 : decode cX11_behind 49 = .ok (.iload_n 2, 1) := by decide +kernel
theorem dX11_behind_50 : decode cX11_behind 50 = .ok (.iconst 2, 1) := by decide +kernel
theorem dX11_behind_51 : decode cX11_behind 51 = .ok (.irem, 1) := by decide +kernel
theorem dX11_behind_52 : decode cX11_behind 52 = .ok (.iconst 1, 1) := by decide +kernel
theorem dX11_behind_53 : decode cX11_behind 53 = .ok (.if_icmp .ne 7, 3) := by decide +kernel
theorem dX11_behind_56 : decode cX11_behind 56 = .ok (.iconst 1, 1) := by decide +kernel
theorem dX11_behind_57 : decode cX11_behind 57 = .ok (.goto 4, 3) := by decide +kernel
theorem dX11_behind_60 : decode cX11_behind 60 = .ok (.iconst 0, 1) := by decide +kernel
theorem dX11_behind_61 : decode cX11_behind 61 = .ok (.invokevirtual 292, 3) := by decide +kernel
theorem dX11_behind_64 : decode cX11_behind 64 = .ok (.ireturn, 1) := by decide +kernel
theorem dX11_shop_0 : decode cX11_shop 0 = .ok (.aload_n 0, 1) := by decide +kernel
theorem dX11_shop_1 : decode cX11_shop 1 = .ok (.invokevirtual 165, 3) := by decide +kernel
theorem dX11_shop_4 : decode cX11_shop 4 = .ok (.astore_n 3, 1) := by decide +kernel
theorem dX11_shop_5 : decode cX11_shop 5 = .ok (.iload_n 1, 1) := by decide +kernel
theorem dX11_shop_6 : decode cX11_shop 6 = .ok (.iconst 1, 1) := by decide +kernel
theorem dX11_shop_7 : decode cX11_shop 7 = .ok (.bipush 6, 2) := by decide +kernel
theorem dX11_shop_9 : decode cX11_shop 9 = .ok (.invokestatic 94, 3) := by decide +kernel
theorem dX11_shop_12 : decode cX11_shop 12 = .ok (.ifCond .eq 24, 3) := by decide +kernel
theorem dX11_shop_15 : decode cX11_shop 15 = .ok (.iload_n 2, 1) := by decide +kernel
theorem dX11_shop_16 : decode cX11_shop 16 = .ok (.ifCond .eq 16, 3) := by decide +kernel
theorem dX11_shop_19 : decode cX11_shop 19 = .ok (.iload_n 2, 1) := by decide +kernel
theorem dX11_shop_20 : decode cX11_shop 20 = .ok (.bipush 10, 2) := by decide +kernel
theorem dX11_shop_22 : decode cX11_shop 22 = .ok (.bipush 9, 2) := by decide +kernel
theorem dX11_shop_24 : decode cX11_shop 24 = .ok (.iload_n 1, 1) := by decide +kernel
theorem dX11_shop_25 : decode cX11_shop 25 = .ok (.iadd, 1) := by decide +kernel
theorem dX11_shop_26 : decode cX11_shop 26 = .ok (.invokestatic 94, 3) := by decide +kernel
theorem dX11_shop_29 : decode cX11_shop 29 = .ok (.ifCond .eq 7, 3) := by decide +kernel
theorem dX11_shop_32 : decode cX11_shop 32 = .ok (.iconst 1, 1) := by decide +kernel
theorem dX11_shop_33 : decode cX11_shop 33 = .ok (.goto 4, 3) := by decide +kernel
theorem dX11_shop_36 : decode cX11_shop 36 = .ok (.iconst 0, 1) := by decide +kernel
theorem dX11_shop_37 : decode cX11_shop 37 = .ok (.istore 4, 2) := by decide +kernel
theorem dX11_shop_39 : decode cX11_shop 39 = .ok (.iload 4, 2) := by decide +kernel
theorem dX11_shop_41 : decode cX11_shop 41 = .ok (.ifCond .eq 20, 3) := by decide +kernel
theorem dX11_shop_44 : decode cX11_shop 44 = .ok (.aload_n 3, 1) := by decide +kernel
theorem dX11_shop_45 : decode cX11_shop 45 = .ok (.ifnull 16, 3) := by decide +kernel
theorem dX11_shop_48 : decode cX11_shop 48 = .ok (.aload_n 0, 1) := by decide +kernel
theorem dX11_shop_49 : decode cX11_shop 49 = .ok (.getfield 46, 3) := by decide +kernel
theorem dX11_shop_52 : decode cX11_shop 52 = .ok (.getfield 101, 3) := by decide +kernel
theorem dX11_shop_55 : decode cX11_shop 55 = .ok (.invokevirtual 169, 3) := by decide +kernel
theorem dX11_shop_58 : decode cX11_shop 58 = .ok (.ifCond .eq 5, 3) := by decide +kernel
theorem dX11_shop_61 : decode cX11_shop 61 = .ok (.iconst (-1), 1) := by decide +kernel
theorem dX11_shop_62 : decode cX11_shop 62 = .ok (.ireturn, 1) := by decide +kernel
theorem dX11_shop_63 : decode cX11_shop 63 = .ok (.aload_n 0, 1) := by decide +kernel
theorem dX11_shop_64 : decode cX11_shop 64 = .ok (.getfield 83, 3) := by decide +kernel
theorem dX11_shop_67 : decode cX11_shop 67 = .ok (.aload_n 3, 1) := by decide +kernel
theorem dX11_shop_68 : decode cX11_shop 68 = .ok (.invokevirtual 296, 3) := by decide +kernel
theorem dX11_shop_71 : decode cX11_shop 71 = .ok (.aload_n 0, 1) := by decide +kernel
theorem dX11_shop_72 : decode cX11_shop 72 = .ok (.getfield 83, 3) := by decide +kernel
theorem dX11_shop_75 : decode cX11_shop 75 = .ok (.iload_n 1, 1) := by decide +kernel
theorem dX11_shop_76 : decode cX11_shop 76 = .ok (.invokevirtual 299, 3) := by decide +kernel
theorem dX11_shop_79 : decode cX11_shop 79 = .ok (.iload_n 2, 1) := by decide +kernel
theorem dX11_shop_80 : decode cX11_shop 80 = .ok (.ifCond .ne 13, 3) := by decide +kernel
theorem dX11_shop_83 : decode cX11_shop 83 = .ok (.aload_n 0, 1) := by decide +kernel
theorem dX11_shop_84 : decode cX11_shop 84 = .ok (.getfield 83, 3) := by decide +kernel
theorem dX11_shop_87 : decode cX11_shop 87 = .ok (.getfield 302, 3) := by decide +kernel
theorem dX11_shop_90 : decode cX11_shop 90 = .ok (.goto 15, 3) := by decide +kernel
theorem dX11_shop_93 : decode cX11_shop 93 = .ok (.aload_n 0, 1) := by decide +kernel
theorem dX11_shop_94 : decode cX11_shop 94 = .ok (.getfield 83, 3) := by decide +kernel
theorem dX11_shop_97 : decode cX11_shop 97 = .ok (.getfield 305, 3) := by decide +kernel
theorem dX11_shop_100 : decode cX11_shop 100 = .ok (.iload_n 2, 1) := by decide +kernel
theorem dX11_shop_101 : decode cX11_shop 101 = .ok (.bipush 10, 2) := by decide +kernel
theorem dX11_shop_103 : decode cX11_shop 103 = .ok (.isub, 1) := by decide +kernel
theorem dX11_shop_104 : decode cX11_shop 104 = .ok (.iaload, 1) := by decide +kernel
theorem dX11_shop_105 : decode cX11_shop 105 = .ok (.ireturn, 1) := by decide +kernel
theorem dX11_read_0 : decode cX11_read 0 = .ok (.iload_n 1, 1) := by decide +kernel
theorem dX11_read_1 : decode cX11_read 1 = .ok (.iconst (-1), 1) := by decide +kernel
theorem dX11_read_2 : decode cX11_read 2 = .ok (.if_icmp .ne 8, 3) := by decide +kernel
theorem dX11_read_5 : decode cX11_read 5 = .ok (.aload_n 0, 1) := by decide +kernel
theorem dX11_read_6 : decode cX11_read 6 = .ok (.invokevirtual 308, 3) := by decide +kernel
theorem dX11_read_9 : decode cX11_read 9 = .ok (.ireturn, 1) := by decide +kernel
theorem dX11_read_10 : decode cX11_read 10 = .ok (.iload_n 1, 1) := by decide +kernel
theorem dX11_read_11 : decode cX11_read 11 = .ok (.iconst 0, 1) := by decide +kernel
theorem dX11_read_12 : decode cX11_read 12 = .ok (.aload_n 0, 1) := by decide +kernel
theorem dX11_read_13 : decode cX11_read 13 = .ok (.getfield 32, 3) := by decide +kernel
theorem dX11_read_16 : decode cX11_read 16 = .ok (.iconst 1, 1) := by decide +kernel
theorem dX11_read_17 : decode cX11_read 17 = .ok (.isub, 1) := by decide +kernel
theorem dX11_read_18 : decode cX11_read 18 = .ok (.invokestatic 94, 3) := by decide +kernel
theorem dX11_read_21 : decode cX11_read 21 = .ok (.ifCond .eq 19, 3) := by decide +kernel
theorem dX11_read_24 : decode cX11_read 24 = .ok (.aload_n 0, 1) := by decide +kernel
theorem dX11_read_25 : decode cX11_read 25 = .ok (.getfield 62, 3) := by decide +kernel
theorem dX11_read_28 : decode cX11_read 28 = .ok (.aload_n 0, 1) := by decide +kernel
theorem dX11_read_29 : decode cX11_read 29 = .ok (.getfield 28, 3) := by decide +kernel
theorem dX11_read_32 : decode cX11_read 32 = .ok (.iload_n 1, 1) := by decide +kernel
theorem dX11_read_33 : decode cX11_read 33 = .ok (.aaload, 1) := by decide +kernel
theorem dX11_read_34 : decode cX11_read 34 = .ok (.invokevirtual 311, 3) := by decide +kernel
theorem dX11_read_37 : decode cX11_read 37 = .ok (.goto 4, 3) := by decide +kernel
theorem dX11_read_40 : decode cX11_read 40 = .ok (.iconst (-1), 1) := by decide +kernel
theorem dX11_read_41 : decode cX11_read 41 = .ok (.ireturn, 1) := by decide +kernel
theorem dX11_image_0 : decode cX11_image 0 = .ok (.aload_n 0, 1) := by decide +kernel
theorem dX11_image_1 : decode cX11_image 1 = .ok (.getfield 91, 3) := by decide +kernel
theorem dX11_image_4 : decode cX11_image 4 = .ok (.iconst 3, 1) := by decide +kernel
theorem dX11_image_5 : decode cX11_image 5 = .ok (.if_icmp .lt 5, 3) := by decide +kernel
theorem dX11_image_8 : decode cX11_image 8 = .ok (.iconst (-1), 1) := by decide +kernel
theorem dX11_image_9 : decode cX11_image 9 = .ok (.ireturn, 1) := by decide +kernel
theorem dX11_image_10 : decode cX11_image 10 = .ok (.new 41, 3) := by decide +kernel
theorem dX11_image_13 : decode cX11_image 13 = .ok (.dup, 1) := by decide +kernel
theorem dX11_image_14 : decode cX11_image 14 = .ok (.aload_n 0, 1) := by decide +kernel
theorem dX11_image_15 : decode cX11_image 15 = .ok (.getfield 46, 3) := by decide +kernel
theorem dX11_image_18 : decode cX11_image 18 = .ok (.getfield 98, 3) := by decide +kernel
theorem dX11_image_21 : decode cX11_image 21 = .ok (.iconst 1, 1) := by decide +kernel
theorem dX11_image_22 : decode cX11_image 22 = .ok (.iadd, 1) := by decide +kernel
theorem dX11_image_23 : decode cX11_image 23 = .ok (.invokespecial 43, 3) := by decide +kernel
theorem dX11_image_26 : decode cX11_image 26 = .ok (.astore_n 1, 1) := by decide +kernel
theorem dX11_image_27 : decode cX11_image 27 = .ok (.aload_n 1, 1) := by decide +kernel
theorem dX11_image_28 : decode cX11_image 28 = .ok (.aload_n 0, 1) := by decide +kernel
theorem dX11_image_29 : decode cX11_image 29 = .ok (.getfield 46, 3) := by decide +kernel
theorem dX11_image_32 : decode cX11_image 32 = .ok (.invokevirtual 314, 3) := by decide +kernel
theorem dX11_image_35 : decode cX11_image 35 = .ok (.aload_n 0, 1) := by decide +kernel
theorem dX11_image_36 : decode cX11_image 36 = .ok (.getfield 87, 3) := by decide +kernel
theorem dX11_image_39 : decode cX11_image 39 = .ok (.aload_n 0, 1) := by decide +kernel
theorem dX11_image_40 : decode cX11_image 40 = .ok (.getfield 91, 3) := by decide +kernel
theorem dX11_image_43 : decode cX11_image 43 = .ok (.aload_n 1, 1) := by decide +kernel
theorem dX11_image_44 : decode cX11_image 44 = .ok (.aastore, 1) := by decide +kernel
theorem dX11_image_45 : decode cX11_image 45 = .ok (.aload_n 0, 1) := by decide +kernel
theorem dX11_image_46 : decode cX11_image 46 = .ok (.dup, 1) := by decide +kernel
theorem dX11_image_47 : decode cX11_image 47 = .ok (.getfield 91, 3) := by decide +kernel
theorem dX11_image_50 : decode cX11_image 50 = .ok (.iconst 1, 1) := by decide +kernel
theorem dX11_image_51 : decode cX11_image 51 = .ok (.iadd, 1) := by decide +kernel
theorem dX11_image_52 : decode cX11_image 52 = .ok (.putfield 91, 3) := by decide +kernel
theorem dX11_image_55 : decode cX11_image 55 = .ok (.aload_n 0, 1) := by decide +kernel
theorem dX11_image_56 : decode cX11_image 56 = .ok (.getfield 91, 3) := by decide +kernel
theorem dX11_image_59 : decode cX11_image 59 = .ok (.iconst 1, 1) := by decide +kernel
theorem dX11_image_60 : decode cX11_image 60 = .ok (.isub, 1) := by decide +kernel
theorem dX11_image_61 : decode cX11_image 61 = .ok (.ireturn, 1) := by decide +kernel
theorem dX11_back_0 : decode cX11_back 0 = .ok (.iload_n 1, 1) := by decide +kernel
theorem dX11_back_1 : decode cX11_back 1 = .ok (.iconst 0, 1) := by decide +kernel
theorem dX11_back_2 : decode cX11_back 2 = .ok (.aload_n 0, 1) := by decide +kernel
theorem dX11_back_3 : decode cX11_back 3 = .ok (.getfield 91, 3) := by decide +kernel
theorem dX11_back_6 : decode cX11_back 6 = .ok (.iconst 1, 1) := by decide +kernel
theorem dX11_back_7 : decode cX11_back 7 = .ok (.isub, 1) := by decide +kernel
theorem dX11_back_8 : decode cX11_back 8 = .ok (.invokestatic 94, 3) := by decide +kernel
theorem dX11_back_11 : decode cX11_back 11 = .ok (.ifCond .ne 5, 3) := by decide +kernel
theorem dX11_back_14 : decode cX11_back 14 = .ok (.iconst 0, 1) := by decide +kernel
theorem dX11_back_15 : decode cX11_back 15 = .ok (.ireturn, 1) := by decide +kernel
theorem dX11_back_16 : decode cX11_back 16 = .ok (.aload_n 0, 1) := by decide +kernel
theorem dX11_back_17 : decode cX11_back 17 = .ok (.getfield 87, 3) := by decide +kernel
theorem dX11_back_20 : decode cX11_back 20 = .ok (.iload_n 1, 1) := by decide +kernel
theorem dX11_back_21 : decode cX11_back 21 = .ok (.aaload, 1) := by decide +kernel
theorem dX11_back_22 : decode cX11_back 22 = .ok (.astore_n 2, 1) := by decide +kernel
theorem dX11_back_23 : decode cX11_back 23 = .ok (.aload_n 2, 1) := by decide +kernel
theorem dX11_back_24 : decode cX11_back 24 = .ok (.ifnonnull 5, 3) := by decide +kernel
theorem dX11_back_27 : decode cX11_back 27 = .ok (.iconst 0, 1) := by decide +kernel
theorem dX11_back_28 : decode cX11_back 28 = .ok (.ireturn, 1) := by decide +kernel
theorem dX11_back_29 : decode cX11_back 29 = .ok (.aload_n 0, 1) := by decide +kernel
theorem dX11_back_30 : decode cX11_back 30 = .ok (.getfield 46, 3) := by decide +kernel
theorem dX11_back_33 : decode cX11_back 33 = .ok (.aload_n 2, 1) := by decide +kernel
theorem dX11_back_34 : decode cX11_back 34 = .ok (.invokevirtual 314, 3) := by decide +kernel
theorem dX11_back_37 : decode cX11_back 37 = .ok (.iconst 1, 1) := by decide +kernel
theorem dX11_back_38 : decode cX11_back 38 = .ok (.ireturn, 1) := by decide +kernel
theorem dX11_count_0 : decode cX11_count 0 = .ok (.aload_n 0, 1) := by decide +kernel
theorem dX11_count_1 : decode cX11_count 1 = .ok (.invokevirtual 165, 3) := by decide +kernel
theorem dX11_count_4 : decode cX11_count 4 = .ok (.astore_n 2, 1) := by decide +kernel
theorem dX11_count_5 : decode cX11_count 5 = .ok (.iload_n 1, 1) := by decide +kernel
theorem dX11_count_6 : decode cX11_count 6 = .ok (.tableswitch 141 0 9 #[54, 65, 73, 78, 83, 96, 104, 112, 117, 122], 54) := by decide +kernel
theorem dX11_count_60 : decode cX11_count 60 = .ok (.aload_n 0, 1) := by decide +kernel
theorem dX11_count_61 : decode cX11_count 61 = .ok (.getfield 46, 3) := by decide +kernel
theorem dX11_count_64 : decode cX11_count 64 = .ok (.getfield 101, 3) := by decide +kernel
theorem dX11_count_67 : decode cX11_count 67 = .ok (.getfield 317, 3) := by decide +kernel
theorem dX11_count_70 : decode cX11_count 70 = .ok (.ireturn, 1) := by decide +kernel
theorem dX11_count_71 : decode cX11_count 71 = .ok (.aload_n 0, 1) := by decide +kernel
theorem dX11_count_72 : decode cX11_count 72 = .ok (.getfield 46, 3) := by decide +kernel
theorem dX11_count_75 : decode cX11_count 75 = .ok (.getfield 98, 3) := by decide +kernel
theorem dX11_count_78 : decode cX11_count 78 = .ok (.ireturn, 1) := by decide +kernel
theorem dX11_count_79 : decode cX11_count 79 = .ok (.aload_n 0, 1) := by decide +kernel
theorem dX11_count_80 : decode cX11_count 80 = .ok (.getfield 32, 3) := by decide +kernel
theorem dX11_count_83 : decode cX11_count 83 = .ok (.ireturn, 1) := by decide +kernel
theorem dX11_count_84 : decode cX11_count 84 = .ok (.aload_n 0, 1) := by decide +kernel
theorem dX11_count_85 : decode cX11_count 85 = .ok (.getfield 35, 3) := by decide +kernel
theorem dX11_count_88 : decode cX11_count 88 = .ok (.ireturn, 1) := by decide +kernel
theorem dX11_count_89 : decode cX11_count 89 = .ok (.aload_n 2, 1) := by decide +kernel
theorem dX11_count_90 : decode cX11_count 90 = .ok (.ifnonnull 7, 3) := by decide +kernel
theorem dX11_count_93 : decode cX11_count 93 = .ok (.iconst 0, 1) := by decide +kernel
theorem dX11_count_94 : decode cX11_count 94 = .ok (.goto 7, 3) := by decide +kernel
theorem dX11_count_97 : decode cX11_count 97 = .ok (.aload_n 2, 1) := by decide +kernel
theorem dX11_count_98 : decode cX11_count 98 = .ok (.getfield 320, 3) := by decide +kernel
theorem dX11_count_101 : decode cX11_count 101 = .ok (.ireturn, 1) := by decide +kernel
theorem dX11_count_102 : decode cX11_count 102 = .ok (.aload_n 0, 1) := by decide +kernel
theorem dX11_count_103 : decode cX11_count 103 = .ok (.getfield 76, 3) := by decide +kernel
theorem dX11_count_106 : decode cX11_count 106 = .ok (.getfield 323, 3) := by decide +kernel
theorem dX11_count_109 : decode cX11_count 109 = .ok (.ireturn, 1) := by decide +kernel
theorem dX11_count_110 : decode cX11_count 110 = .ok (.aload_n 0, 1) := by decide +kernel
theorem dX11_count_111 : decode cX11_count 111 = .ok (.getfield 46, 3) := by decide +kernel
theorem dX11_count_114 : decode cX11_count 114 = .ok (.getfield 275, 3) := by decide +kernel
theorem dX11_count_117 : decode cX11_count 117 = .ok (.ireturn, 1) := by decide +kernel
theorem dX11_count_118 : decode cX11_count 118 = .ok (.aload_n 0, 1) := by decide +kernel
theorem dX11_count_119 : decode cX11_count 119 = .ok (.getfield 91, 3) := by decide +kernel
theorem dX11_count_122 : decode cX11_count 122 = .ok (.ireturn, 1) := by decide +kernel
theorem dX11_count_123 : decode cX11_count 123 = .ok (.aload_n 0, 1) := by decide +kernel
theorem dX11_count_124 : decode cX11_count 124 = .ok (.getfield 13, 3) := by decide +kernel
theorem dX11_count_127 : decode cX11_count 127 = .ok (.ireturn, 1) := by decide +kernel
theorem dX11_count_128 : decode cX11_count 128 = .ok (.aload_n 0, 1) := by decide +kernel
theorem dX11_count_129 : decode cX11_count 129 = .ok (.getfield 46, 3) := by decide +kernel
theorem dX11_count_132 : decode cX11_count 132 = .ok (.getfield 111, 3) := by decide +kernel
theorem dX11_count_135 : decode cX11_count 135 = .ok (.getfield 137, 3) := by decide +kernel
theorem dX11_count_138 : decode cX11_count 138 = .ok (.aload_n 0, 1) := by decide +kernel
theorem dX11_count_139 : decode cX11_count 139 = .ok (.getfield 46, 3) := by decide +kernel
theorem dX11_count_142 : decode cX11_count 142 = .ok (.getfield 98, 3) := by decide +kernel
theorem dX11_count_145 : decode cX11_count 145 = .ok (.iaload, 1) := by decide +kernel
theorem dX11_count_146 : decode cX11_count 146 = .ok (.ireturn, 1) := by decide +kernel
theorem dX11_count_147 : decode cX11_count 147 = .ok (.iload_n 1, 1) := by decide +kernel
theorem dX11_count_148 : decode cX11_count 148 = .ok (.bipush 10, 2) := by decide +kernel
theorem dX11_count_150 : decode cX11_count 150 = .ok (.isub, 1) := by decide +kernel
theorem dX11_count_151 : decode cX11_count 151 = .ok (.invokestatic 131, 3) := by decide +kernel
theorem dX11_count_154 : decode cX11_count 154 = .ok (.ifCond .eq 27, 3) := by decide +kernel
theorem dX11_count_157 : decode cX11_count 157 = .ok (.aload_n 0, 1) := by decide +kernel
theorem dX11_count_158 : decode cX11_count 158 = .ok (.getfield 46, 3) := by decide +kernel
theorem dX11_count_161 : decode cX11_count 161 = .ok (.getfield 111, 3) := by decide +kernel
theorem dX11_count_164 : decode cX11_count 164 = .ok (.iload_n 1, 1) := by decide +kernel
theorem dX11_count_165 : decode cX11_count 165 = .ok (.bipush 10, 2) := by decide +kernel
theorem dX11_count_167 : decode cX11_count 167 = .ok (.isub, 1) := by decide +kernel
theorem dX11_count_168 : decode cX11_count 168 = .ok (.aload_n 0, 1) := by decide +kernel
theorem dX11_count_169 : decode cX11_count 169 = .ok (.getfield 46, 3) := by decide +kernel
theorem dX11_count_172 : decode cX11_count 172 = .ok (.getfield 98, 3) := by decide +kernel
theorem dX11_count_175 : decode cX11_count 175 = .ok (.invokevirtual 324, 3) := by decide +kernel
theorem dX11_count_178 : decode cX11_count 178 = .ok (.goto 4, 3) := by decide +kernel
theorem dX11_count_181 : decode cX11_count 181 = .ok (.iconst (-1), 1) := by decide +kernel
theorem dX11_count_182 : decode cX11_count 182 = .ok (.ireturn, 1) := by decide +kernel
theorem dX11_within_0 : decode cX11_within 0 = .ok (.iload_n 0, 1) := by decide +kernel
theorem dX11_within_1 : decode cX11_within 1 = .ok (.iload_n 1, 1) := by decide +kernel
theorem dX11_within_2 : decode cX11_within 2 = .ok (.if_icmp .lt 12, 3) := by decide +kernel
theorem dX11_within_5 : decode cX11_within 5 = .ok (.iload_n 0, 1) := by decide +kernel
theorem dX11_within_6 : decode cX11_within 6 = .ok (.iload_n 2, 1) := by decide +kernel
theorem dX11_within_7 : decode cX11_within 7 = .ok (.if_icmp .gt 7, 3) := by decide +kernel
theorem dX11_within_10 : decode cX11_within 10 = .ok (.iconst 1, 1) := by decide +kernel
theorem dX11_within_11 : decode cX11_within 11 = .ok (.goto 4, 3) := by decide +kernel
theorem dX11_within_14 : decode cX11_within 14 = .ok (.iconst 0, 1) := by decide +kernel
theorem dX11_within_15 : decode cX11_within 15 = .ok (.ireturn, 1) := by decide +kernel
theorem dX11_isHouse_0 : decode cX11_isHouse 0 = .ok (.iload_n 0, 1) := by decide +kernel
theorem dX11_isHouse_1 : decode cX11_isHouse 1 = .ok (.iconst 0, 1) := by decide +kernel
theorem dX11_isHouse_2 : decode cX11_isHouse 2 = .ok (.iconst 3, 1) := by decide +kernel
theorem dX11_isHouse_3 : decode cX11_isHouse 3 = .ok (.invokestatic 94, 3) := by decide +kernel
theorem dX11_isHouse_6 : decode cX11_isHouse 6 = .ok (.ireturn, 1) := by decide +kernel
theorem dX11_putOnTape_0 : decode cX11_putOnTape 0 = .ok (.bipush 24, 2) := by decide +kernel
theorem dX11_putOnTape_2 : decode cX11_putOnTape 2 = .ok (.istore_n 2, 1) := by decide +kernel
theorem dX11_putOnTape_3 : decode cX11_putOnTape 3 = .ok (.iload_n 2, 1) := by decide +kernel
theorem dX11_putOnTape_4 : decode cX11_putOnTape 4 = .ok (.ifCond .lt 44, 3) := by decide +kernel
theorem dX11_putOnTape_7 : decode cX11_putOnTape 7 = .ok (.aload_n 0, 1) := by decide +kernel
theorem dX11_putOnTape_8 : decode cX11_putOnTape 8 = .ok (.getfield 13, 3) := by decide +kernel
theorem dX11_putOnTape_11 : decode cX11_putOnTape 11 = .ok (.aload_n 0, 1) := by decide +kernel
theorem dX11_putOnTape_12 : decode cX11_putOnTape 12 = .ok (.getfield 9, 3) := by decide +kernel
theorem dX11_putOnTape_15 : decode cX11_putOnTape 15 = .ok (.arraylength, 1) := by decide +kernel
theorem dX11_putOnTape_16 : decode cX11_putOnTape 16 = .ok (.if_icmp .ge 32, 3) := by decide +kernel
theorem dX11_putOnTape_19 : decode cX11_putOnTape 19 = .ok (.aload_n 0, 1) := by decide +kernel
theorem dX11_putOnTape_20 : decode cX11_putOnTape 20 = .ok (.getfield 9, 3) := by decide +kernel
theorem dX11_putOnTape_23 : decode cX11_putOnTape 23 = .ok (.aload_n 0, 1) := by decide +kernel
theorem dX11_putOnTape_24 : decode cX11_putOnTape 24 = .ok (.getfield 13, 3) := by decide +kernel
theorem dX11_putOnTape_27 : decode cX11_putOnTape 27 = .ok (.iload_n 1, 1) := by decide +kernel
theorem dX11_putOnTape_28 : decode cX11_putOnTape 28 = .ok (.iload_n 2, 1) := by decide +kernel
theorem dX11_putOnTape_29 : decode cX11_putOnTape 29 = .ok (.ishr, 1) := by decide +kernel
theorem dX11_putOnTape_30 : decode cX11_putOnTape 30 = .ok (.i2b, 1) := by decide +kernel
theorem dX11_putOnTape_31 : decode cX11_putOnTape 31 = .ok (.bastore, 1) := by decide +kernel
theorem dX11_putOnTape_32 : decode cX11_putOnTape 32 = .ok (.aload_n 0, 1) := by decide +kernel
theorem dX11_putOnTape_33 : decode cX11_putOnTape 33 = .ok (.dup, 1) := by decide +kernel
theorem dX11_putOnTape_34 : decode cX11_putOnTape 34 = .ok (.getfield 13, 3) := by decide +kernel
theorem dX11_putOnTape_37 : decode cX11_putOnTape 37 = .ok (.iconst 1, 1) := by decide +kernel
theorem dX11_putOnTape_38 : decode cX11_putOnTape 38 = .ok (.iadd, 1) := by decide +kernel
theorem dX11_putOnTape_39 : decode cX11_putOnTape 39 = .ok (.putfield 13, 3) := by decide +kernel
theorem dX11_putOnTape_42 : decode cX11_putOnTape 42 = .ok (.iinc 2 (-8), 3) := by decide +kernel
theorem dX11_putOnTape_45 : decode cX11_putOnTape 45 = .ok (.goto (-42), 3) := by decide +kernel
theorem dX11_putOnTape_48 : decode cX11_putOnTape 48 = .ok (.return_, 1) := by decide +kernel
theorem dX11_lawInForce_0 : decode cX11_lawInForce 0 = .ok (.aload_n 0, 1) := by decide +kernel
theorem dX11_lawInForce_1 : decode cX11_lawInForce 1 = .ok (.getfield 35, 3) := by decide +kernel
theorem dX11_lawInForce_4 : decode cX11_lawInForce 4 = .ok (.iconst 0, 1) := by decide +kernel
theorem dX11_lawInForce_5 : decode cX11_lawInForce 5 = .ok (.aload_n 0, 1) := by decide +kernel
theorem dX11_lawInForce_6 : decode cX11_lawInForce 6 = .ok (.getfield 32, 3) := by decide +kernel
theorem dX11_lawInForce_9 : decode cX11_lawInForce 9 = .ok (.iconst 1, 1) := by decide +kernel
theorem dX11_lawInForce_10 : decode cX11_lawInForce 10 = .ok (.isub, 1) := by decide +kernel
theorem dX11_lawInForce_11 : decode cX11_lawInForce 11 = .ok (.invokestatic 94, 3) := by decide +kernel
theorem dX11_lawInForce_14 : decode cX11_lawInForce 14 = .ok (.ifCond .eq 15, 3) := by decide +kernel
theorem dX11_lawInForce_17 : decode cX11_lawInForce 17 = .ok (.aload_n 0, 1) := by decide +kernel
theorem dX11_lawInForce_18 : decode cX11_lawInForce 18 = .ok (.getfield 28, 3) := by decide +kernel
theorem dX11_lawInForce_21 : decode cX11_lawInForce 21 = .ok (.aload_n 0, 1) := by decide +kernel
theorem dX11_lawInForce_22 : decode cX11_lawInForce 22 = .ok (.getfield 35, 3) := by decide +kernel
theorem dX11_lawInForce_25 : decode cX11_lawInForce 25 = .ok (.aaload, 1) := by decide +kernel
theorem dX11_lawInForce_26 : decode cX11_lawInForce 26 = .ok (.goto 4, 3) := by decide +kernel
theorem dX11_lawInForce_29 : decode cX11_lawInForce 29 = .ok (.aconst_null, 1) := by decide +kernel
theorem dX11_lawInForce_30 : decode cX11_lawInForce 30 = .ok (.areturn, 1) := by decide +kernel
theorem dX11_lawReadingBest_0 : decode cX11_lawReadingBest 0 = .ok (.iconst (-1), 1) := by decide +kernel
theorem dX11_lawReadingBest_1 : decode cX11_lawReadingBest 1 = .ok (.istore_n 1, 1) := by decide +kernel
theorem dX11_lawReadingBest_2 : decode cX11_lawReadingBest 2 = .ok (.iconst 0, 1) := by decide +kernel
theorem dX11_lawReadingBest_3 : decode cX11_lawReadingBest 3 = .ok (.istore_n 2, 1) := by decide +kernel
theorem dX11_lawReadingBest_4 : decode cX11_lawReadingBest 4 = .ok (.iconst 0, 1) := by decide +kernel
theorem dX11_lawReadingBest_5 : decode cX11_lawReadingBest 5 = .ok (.istore_n 3, 1) := by decide +kernel
theorem dX11_lawReadingBest_6 : decode cX11_lawReadingBest 6 = .ok (.iload_n 3, 1) := by decide +kernel
theorem dX11_lawReadingBest_7 : decode cX11_lawReadingBest 7 = .ok (.aload_n 0, 1) := by decide +kernel
theorem dX11_lawReadingBest_8 : decode cX11_lawReadingBest 8 = .ok (.getfield 32, 3) := by decide +kernel
theorem dX11_lawReadingBest_11 : decode cX11_lawReadingBest 11 = .ok (.if_icmp .ge 40, 3) := by decide +kernel
theorem dX11_lawReadingBest_14 : decode cX11_lawReadingBest 14 = .ok (.aload_n 0, 1) := by decide +kernel
theorem dX11_lawReadingBest_15 : decode cX11_lawReadingBest 15 = .ok (.getfield 62, 3) := by decide +kernel
theorem dX11_lawReadingBest_18 : decode cX11_lawReadingBest 18 = .ok (.aload_n 0, 1) := by decide +kernel
theorem dX11_lawReadingBest_19 : decode cX11_lawReadingBest 19 = .ok (.getfield 28, 3) := by decide +kernel
theorem dX11_lawReadingBest_22 : decode cX11_lawReadingBest 22 = .ok (.iload_n 3, 1) := by decide +kernel
theorem dX11_lawReadingBest_23 : decode cX11_lawReadingBest 23 = .ok (.aaload, 1) := by decide +kernel
theorem dX11_lawReadingBest_24 : decode cX11_lawReadingBest 24 = .ok (.invokevirtual 311, 3) := by decide +kernel
theorem dX11_lawReadingBest_27 : decode cX11_lawReadingBest 27 = .ok (.istore 4, 2) := by decide +kernel
theorem dX11_lawReadingBest_29 : decode cX11_lawReadingBest 29 = .ok (.iload_n 1, 1) := by decide +kernel
theorem dX11_lawReadingBest_30 : decode cX11_lawReadingBest 30 = .ok (.iconst (-1), 1) := by decide +kernel
theorem dX11_lawReadingBest_31 : decode cX11_lawReadingBest 31 = .ok (.if_icmp .eq 9, 3) := by decide +kernel
theorem dX11_lawReadingBest_34 : decode cX11_lawReadingBest 34 = .ok (.iload 4, 2) := by decide +kernel
theorem dX11_lawReadingBest_36 : decode cX11_lawReadingBest 36 = .ok (.iload_n 2, 1) := by decide +kernel
theorem dX11_lawReadingBest_37 : decode cX11_lawReadingBest 37 = .ok (.if_icmp .ge 8, 3) := by decide +kernel
theorem dX11_lawReadingBest_40 : decode cX11_lawReadingBest 40 = .ok (.iload_n 3, 1) := by decide +kernel
theorem dX11_lawReadingBest_41 : decode cX11_lawReadingBest 41 = .ok (.istore_n 1, 1) := by decide +kernel
theorem dX11_lawReadingBest_42 : decode cX11_lawReadingBest 42 = .ok (.iload 4, 2) := by decide +kernel
theorem dX11_lawReadingBest_44 : decode cX11_lawReadingBest 44 = .ok (.istore_n 2, 1) := by decide +kernel
theorem dX11_lawReadingBest_45 : decode cX11_lawReadingBest 45 = .ok (.iinc 3 1, 3) := by decide +kernel
theorem dX11_lawReadingBest_48 : decode cX11_lawReadingBest 48 = .ok (.goto (-42), 3) := by decide +kernel
theorem dX11_lawReadingBest_51 : decode cX11_lawReadingBest 51 = .ok (.iload_n 1, 1) := by decide +kernel
theorem dX11_lawReadingBest_52 : decode cX11_lawReadingBest 52 = .ok (.ireturn, 1) := by decide +kernel
theorem dX12_init_0 : decode cX12_init 0 = .ok (.aload_n 0, 1) := by decide +kernel
theorem dX12_init_1 : decode cX12_init 1 = .ok (.invokespecial 1, 3) := by decide +kernel
theorem dX12_init_4 : decode cX12_init 4 = .ok (.aload_n 0, 1) := by decide +kernel
theorem dX12_init_5 : decode cX12_init 5 = .ok (.lconst 1, 1) := by decide +kernel
theorem dX12_init_6 : decode cX12_init 6 = .ok (.putfield 7, 3) := by decide +kernel
theorem dX12_init_9 : decode cX12_init 9 = .ok (.aload_n 0, 1) := by decide +kernel
theorem dX12_init_10 : decode cX12_init 10 = .ok (.bipush 16, 2) := by decide +kernel
theorem dX12_init_12 : decode cX12_init 12 = .ok (.newarray .int, 2) := by decide +kernel
theorem dX12_init_14 : decode cX12_init 14 = .ok (.putfield 13, 3) := by decide +kernel
theorem dX12_init_17 : decode cX12_init 17 = .ok (.aload_n 0, 1) := by decide +kernel
theorem dX12_init_18 : decode cX12_init 18 = .ok (.bipush 16, 2) := by decide +kernel
theorem dX12_init_20 : decode cX12_init 20 = .ok (.newarray .int, 2) := by decide +kernel
theorem dX12_init_22 : decode cX12_init 22 = .ok (.putfield 17, 3) := by decide +kernel
theorem dX12_init_25 : decode cX12_init 25 = .ok (.aload_n 0, 1) := by decide +kernel
theorem dX12_init_26 : decode cX12_init 26 = .ok (.bipush 16, 2) := by decide +kernel
theorem dX12_init_28 : decode cX12_init 28 = .ok (.newarray .int, 2) := by decide +kernel
theorem dX12_init_30 : decode cX12_init 30 = .ok (.putfield 20, 3) := by decide +kernel
theorem dX12_init_33 : decode cX12_init 33 = .ok (.aload_n 0, 1) := by decide +kernel
theorem dX12_init_34 : decode cX12_init 34 = .ok (.bipush 16, 2) := by decide +kernel
theorem dX12_init_36 : decode cX12_init 36 = .ok (.newarray .int, 2) := by decide +kernel
theorem dX12_init_38 : decode cX12_init 38 = .ok (.putfield 23, 3) := by decide +kernel
theorem dX12_init_41 : decode cX12_init 41 = .ok (.aload_n 0, 1) := by decide +kernel
theorem dX12_init_42 : decode cX12_init 42 = .ok (.bipush 16, 2) := by decide +kernel
theorem dX12_init_44 : decode cX12_init 44 = .ok (.newarray .int, 2) := by decide +kernel
theorem dX12_init_46 : decode cX12_init 46 = .ok (.putfield 26, 3) := by decide +kernel
theorem dX12_init_49 : decode cX12_init 49 = .ok (.aload_n 0, 1) := by decide +kernel
theorem dX12_init_50 : decode cX12_init 50 = .ok (.iconst 4, 1) := by decide +kernel
theorem dX12_init_51 : decode cX12_init 51 = .ok (.newarray .int, 2) := by decide +kernel
theorem dX12_init_53 : decode cX12_init 53 = .ok (.dup, 1) := by decide +kernel
theorem dX12_init_54 : decode cX12_init 54 = .ok (.iconst 0, 1) := by decide +kernel
theorem dX12_init_55 : decode cX12_init 55 = .ok (.iconst (-1), 1) := by decide +kernel
theorem dX12_init_56 : decode cX12_init 56 = .ok (.iastore, 1) := by decide +kernel
theorem dX12_init_57 : decode cX12_init 57 = .ok (.dup, 1) := by decide +kernel
theorem dX12_init_58 : decode cX12_init 58 = .ok (.iconst 1, 1) := by decide +kernel
theorem dX12_init_59 : decode cX12_init 59 = .ok (.iconst (-1), 1) := by decide +kernel
theorem dX12_init_60 : decode cX12_init 60 = .ok (.iastore, 1) := by decide +kernel
theorem dX12_init_61 : decode cX12_init 61 = .ok (.dup, 1) := by decide +kernel
theorem dX12_init_62 : decode cX12_init 62 = .ok (.iconst 2, 1) := by decide +kernel
theorem dX12_init_63 : decode cX12_init 63 = .ok (.iconst (-1), 1) := by decide +kernel
theorem dX12_init_64 : decode cX12_init 64 = .ok (.iastore, 1) := by decide +kernel
theorem dX12_init_65 : decode cX12_init 65 = .ok (.dup, 1) := by decide +kernel
theorem dX12_init_66 : decode cX12_init 66 = .ok (.iconst 3, 1) := by decide +kernel
theorem dX12_init_67 : decode cX12_init 67 = .ok (.iconst (-1), 1) := by decide +kernel
theorem dX12_init_68 : decode cX12_init 68 = .ok (.iastore, 1) := by decide +kernel
theorem dX12_init_69 : decode cX12_init 69 = .ok (.putfield 29, 3) := by decide +kernel
theorem dX12_init_72 : decode cX12_init 72 = .ok (.aload_n 0, 1) := by decide +kernel
theorem dX12_init_73 : decode cX12_init 73 = .ok (.bipush 96, 2) := by decide +kernel
theorem dX12_init_75 : decode cX12_init 75 = .ok (.newarray .int, 2) := by decide +kernel
theorem dX12_init_77 : decode cX12_init 77 = .ok (.putfield 32, 3) := by decide +kernel
theorem dX12_init_80 : decode cX12_init 80 = .ok (.aload_n 0, 1) := by decide +kernel
theorem dX12_init_81 : decode cX12_init 81 = .ok (.sipush 4816, 3) := by decide +kernel
theorem dX12_init_84 : decode cX12_init 84 = .ok (.newarray .int, 2) := by decide +kernel
theorem dX12_init_86 : decode cX12_init 86 = .ok (.putfield 35, 3) := by decide +kernel
theorem dX12_init_89 : decode cX12_init 89 = .ok (.aload_n 0, 1) := by decide +kernel
theorem dX12_init_90 : decode cX12_init 90 = .ok (.sipush 4816, 3) := by decide +kernel
theorem dX12_init_93 : decode cX12_init 93 = .ok (.newarray .int, 2) := by decide +kernel
theorem dX12_init_95 : decode cX12_init 95 = .ok (.putfield 38, 3) := by decide +kernel
theorem dX12_init_98 : decode cX12_init 98 = .ok (.aload_n 0, 1) := by decide +kernel
theorem dX12_init_99 : decode cX12_init 99 = .ok (.sipush 4816, 3) := by decide +kernel
theorem dX12_init_102 : decode cX12_init 102 = .ok (.newarray .int, 2) := by decide +kernel
theorem dX12_init_104 : decode cX12_init 104 = .ok (.putfield 41, 3) := by decide +kernel
theorem dX12_init_107 : decode cX12_init 107 = .ok (.aload_n 0, 1) := by decide +kernel
theorem dX12_init_108 : decode cX12_init 108 = .ok (.sipush 4816, 3) := by decide +kernel
theorem dX12_init_111 : decode cX12_init 111 = .ok (.newarray .int, 2) := by decide +kernel
theorem dX12_init_113 : decode cX12_init 113 = .ok (.putfield 44, 3) := by decide +kernel
theorem dX12_init_116 : decode cX12_init 116 = .ok (.aload_n 0, 1) := by decide +kernel
theorem dX12_init_117 : decode cX12_init 117 = .ok (.sipush 1204, 3) := by decide +kernel
theorem dX12_init_120 : decode cX12_init 120 = .ok (.newarray .int, 2) := by decide +kernel
theorem dX12_init_122 : decode cX12_init 122 = .ok (.putfield 47, 3) := by decide +kernel
theorem dX12_init_125 : decode cX12_init 125 = .ok (.aload_n 0, 1) := by decide +kernel
theorem dX12_init_126 : decode cX12_init 126 = .ok (.sipush 301, 3) := by decide +kernel
theorem dX12_init_129 : decode cX12_init 129 = .ok (.newarray .int, 2) := by decide +kernel
theorem dX12_init_131 : decode cX12_init 131 = .ok (.putfield 50, 3) := by decide +kernel
theorem dX12_init_134 : decode cX12_init 134 = .ok (.aload_n 0, 1) := by decide +kernel
theorem dX12_init_135 : decode cX12_init 135 = .ok (.iconst (-1), 1) := by decide +kernel
theorem dX12_init_136 : decode cX12_init 136 = .ok (.putfield 53, 3) := by decide +kernel
theorem dX12_init_139 : decode cX12_init 139 = .ok (.aload_n 0, 1) := by decide +kernel
theorem dX12_init_140 : decode cX12_init 140 = .ok (.iconst (-1), 1) := by decide +kernel
theorem dX12_init_141 : decode cX12_init 141 = .ok (.putfield 57, 3) := by decide +kernel
theorem dX12_init_144 : decode cX12_init 144 = .ok (.aload_n 0, 1) := by decide +kernel
theorem dX12_init_145 : decode cX12_init 145 = .ok (.bipush 6, 2) := by decide +kernel
theorem dX12_init_147 : decode cX12_init 147 = .ok (.newarray .int, 2) := by decide +kernel
theorem dX12_init_149 : decode cX12_init 149 = .ok (.putfield 60, 3) := by decide +kernel
theorem dX12_init_152 : decode cX12_init 152 = .ok (.aload_n 0, 1) := by decide +kernel
theorem dX12_init_153 : decode cX12_init 153 = .ok (.bipush 96, 2) := by decide +kernel
theorem dX12_init_155 : decode cX12_init 155 = .ok (.newarray .int, 2) := by decide +kernel
theorem dX12_init_157 : decode cX12_init 157 = .ok (.putfield 63, 3) := by decide +kernel
theorem dX12_init_160 : decode cX12_init 160 = .ok (.aload_n 0, 1) := by decide +kernel
theorem dX12_init_161 : decode cX12_init 161 = .ok (.bipush 96, 2) := by decide +kernel
theorem dX12_init_163 : decode cX12_init 163 = .ok (.newarray .int, 2) := by decide +kernel
theorem dX12_init_165 : decode cX12_init 165 = .ok (.putfield 66, 3) := by decide +kernel
theorem dX12_init_168 : decode cX12_init 168 = .ok (.aload_n 0, 1) := by decide +kernel
theorem dX12_init_169 : decode cX12_init 169 = .ok (.bipush 96, 2) := by decide +kernel
theorem dX12_init_171 : decode cX12_init 171 = .ok (.newarray .int, 2) := by decide +kernel
theorem dX12_init_173 : decode cX12_init 173 = .ok (.putfield 69, 3) := by decide +kernel
theorem dX12_init_176 : decode cX12_init 176 = .ok (.aload_n 0, 1) := by decide +kernel
theorem dX12_init_177 : decode cX12_init 177 = .ok (.bipush 96, 2) := by decide +kernel
theorem dX12_init_179 : decode cX12_init 179 = .ok (.newarray .int, 2) := by decide +kernel
theorem dX12_init_181 : decode cX12_init 181 = .ok (.putfield 72, 3) := by decide +kernel
theorem dX12_init_184 : decode cX12_init 184 = .ok (.aload_n 0, 1) := by decide +kernel
theorem dX12_init_185 : decode cX12_init 185 = .ok (.bipush 96, 2) := by decide +kernel
theorem dX12_init_187 : decode cX12_init 187 = .ok (.newarray .int, 2) := by decide +kernel
theorem dX12_init_189 : decode cX12_init 189 = .ok (.putfield 75, 3) := by decide +kernel
theorem dX12_init_192 : decode cX12_init 192 = .ok (.aload_n 0, 1) := by decide +kernel
theorem dX12_init_193 : decode cX12_init 193 = .ok (.bipush 96, 2) := by decide +kernel
theorem dX12_init_195 : decode cX12_init 195 = .ok (.newarray .int, 2) := by decide +kernel
theorem dX12_init_197 : decode cX12_init 197 = .ok (.putfield 78, 3) := by decide +kernel
theorem dX12_init_200 : decode cX12_init 200 = .ok (.aload_n 0, 1) := by decide +kernel
theorem dX12_init_201 : decode cX12_init 201 = .ok (.sipush 4200, 3) := by decide +kernel
theorem dX12_init_204 : decode cX12_init 204 = .ok (.newarray .int, 2) := by decide +kernel
theorem dX12_init_206 : decode cX12_init 206 = .ok (.putfield 81, 3) := by decide +kernel
theorem dX12_init_209 : decode cX12_init 209 = .ok (.aload_n 0, 1) := by decide +kernel
theorem dX12_init_210 : decode cX12_init 210 = .ok (.sipush 4200, 3) := by decide +kernel
theorem dX12_init_213 : decode cX12_init 213 = .ok (.newarray .int, 2) := by decide +kernel
theorem dX12_init_215 : decode cX12_init 215 = .ok (.putfield 84, 3) := by decide +kernel
theorem dX12_init_218 : decode cX12_init 218 = .ok (.aload_n 0, 1) := by decide +kernel
theorem dX12_init_219 : decode cX12_init 219 = .ok (.sipush 4200, 3) := by decide +kernel
theorem dX12_init_222 : decode cX12_init 222 = .ok (.newarray .int, 2) := by decide +kernel
theorem dX12_init_224 : decode cX12_init 224 = .ok (.putfield 87, 3) := by decide +kernel
theorem dX12_init_227 : decode cX12_init 227 = .ok (.aload_n 0, 1) := by decide +kernel
theorem dX12_init_228 : decode cX12_init 228 = .ok (.bipush 64, 2) := by decide +kernel
theorem dX12_init_230 : decode cX12_init 230 = .ok (.newarray .boolean, 2) := by decide +kernel
theorem dX12_init_232 : decode cX12_init 232 = .ok (.putfield 90, 3) := by decide +kernel
theorem dX12_init_235 : decode cX12_init 235 = .ok (.aload_n 0, 1) := by decide +kernel
theorem dX12_init_236 : decode cX12_init 236 = .ok (.sipush 700, 3) := by decide +kernel
theorem dX12_init_239 : decode cX12_init 239 = .ok (.newarray .byte, 2) := by decide +kernel
theorem dX12_init_241 : decode cX12_init 241 = .ok (.putfield 94, 3) := by decide +kernel
theorem dX12_init_244 : decode cX12_init 244 = .ok (.aload_n 0, 1) := by decide +kernel
theorem dX12_init_245 : decode cX12_init 245 = .ok (.sipush 700, 3) := by decide +kernel
theorem dX12_init_248 : decode cX12_init 248 = .ok (.newarray .byte, 2) := by decide +kernel
theorem dX12_init_250 : decode cX12_init 250 = .ok (.putfield 98, 3) := by decide +kernel
theorem dX12_init_253 : decode cX12_init 253 = .ok (.aload_n 0, 1) := by decide +kernel
theorem dX12_init_254 : decode cX12_init 254 = .ok (.bipush 6, 2) := by decide +kernel
theorem dX12_init_256 : decode cX12_init 256 = .ok (.newarray .int, 2) := by decide +kernel
theorem dX12_init_258 : decode cX12_init 258 = .ok (.putfield 101, 3) := by decide +kernel
theorem dX12_init_261 : decode cX12_init 261 = .ok (.aload_n 0, 1) := by decide +kernel
theorem dX12_init_262 : decode cX12_init 262 = .ok (.bipush 12, 2) := by decide +kernel
theorem dX12_init_264 : decode cX12_init 264 = .ok (.newarray .int, 2) := by decide +kernel
theorem dX12_init_266 : decode cX12_init 266 = .ok (.putfield 104, 3) := by decide +kernel
theorem dX12_init_269 : decode cX12_init 269 = .ok (.aload_n 0, 1) := by decide +kernel
theorem dX12_init_270 : decode cX12_init 270 = .ok (.sipush 130, 3) := by decide +kernel
theorem dX12_init_273 : decode cX12_init 273 = .ok (.newarray .int, 2) := by decide +kernel
theorem dX12_init_275 : decode cX12_init 275 = .ok (.putfield 107, 3) := by decide +kernel
theorem dX12_init_278 : decode cX12_init 278 = .ok (.aload_n 0, 1) := by decide +kernel
theorem dX12_init_279 : decode cX12_init 279 = .ok (.bipush 16, 2) := by decide +kernel
theorem dX12_init_281 : decode cX12_init 281 = .ok (.newarray .int, 2) := by decide +kernel
theorem dX12_init_283 : decode cX12_init 283 = .ok (.putfield 110, 3) := by decide +kernel
theorem dX12_init_286 : decode cX12_init 286 = .ok (.aload_n 0, 1) := by decide +kernel
theorem dX12_init_287 : decode cX12_init 287 = .ok (.bipush 13, 2) := by decide +kernel
theorem dX12_init_289 : decode cX12_init 289 = .ok (.newarray .long, 2) := by decide +kernel
theorem dX12_init_291 : decode cX12_init 291 = .ok (.putfield 113, 3) := by decide +kernel
theorem dX12_init_294 : decode cX12_init 294 = .ok (.aload_n 0, 1) := by decide +kernel
theorem dX12_init_295 : decode cX12_init 295 = .ok (.bipush 41, 2) := by decide +kernel
theorem dX12_init_297 : decode cX12_init 297 = .ok (.newarray .long, 2) := by decide +kernel
theorem dX12_init_299 : decode cX12_init 299 = .ok (.putfield 117, 3) := by decide +kernel
theorem dX12_init_302 : decode cX12_init 302 = .ok (.aload_n 0, 1) := by decide +kernel
theorem dX12_init_303 : decode cX12_init 303 = .ok (.bipush 60, 2) := by decide +kernel
theorem dX12_init_305 : decode cX12_init 305 = .ok (.newarray .int, 2) := by decide +kernel
theorem dX12_init_307 : decode cX12_init 307 = .ok (.putfield 120, 3) := by decide +kernel
theorem dX12_init_310 : decode cX12_init 310 = .ok (.aload_n 0, 1) := by decide +kernel
theorem dX12_init_311 : decode cX12_init 311 = .ok (.bipush 60, 2) := by decide +kernel
theorem dX12_init_313 : decode cX12_init 313 = .ok (.newarray .int, 2) := by decide +kernel
theorem dX12_init_315 : decode cX12_init 315 = .ok (.putfield 123, 3) := by decide +kernel
theorem dX12_init_318 : decode cX12_init 318 = .ok (.aload_n 0, 1) := by decide +kernel
theorem dX12_init_319 : decode cX12_init 319 = .ok (.bipush 60, 2) := by decide +kernel
theorem dX12_init_321 : decode cX12_init 321 = .ok (.newarray .int, 2) := by decide +kernel
theorem dX12_init_323 : decode cX12_init 323 = .ok (.putfield 126, 3) := by decide +kernel
theorem dX12_init_326 : decode cX12_init 326 = .ok (.aload_n 0, 1) := by decide +kernel
theorem dX12_init_327 : decode cX12_init 327 = .ok (.bipush 20, 2) := by decide +kernel
theorem dX12_init_329 : decode cX12_init 329 = .ok (.newarray .int, 2) := by decide +kernel
theorem dX12_init_331 : decode cX12_init 331 = .ok (.putfield 129, 3) := by decide +kernel
theorem dX12_init_334 : decode cX12_init 334 = .ok (.aload_n 0, 1) := by decide +kernel
theorem dX12_init_335 : decode cX12_init 335 = .ok (.bipush 20, 2) := by decide +kernel
theorem dX12_init_337 : decode cX12_init 337 = .ok (.newarray .int, 2) := by decide +kernel
theorem dX12_init_339 : decode cX12_init 339 = .ok (.putfield 132, 3) := by decide +kernel
theorem dX12_init_342 : decode cX12_init 342 = .ok (.aload_n 0, 1) := by decide +kernel
theorem dX12_init_343 : decode cX12_init 343 = .ok (.bipush 20, 2) := by decide +kernel
theorem dX12_init_345 : decode cX12_init 345 = .ok (.newarray .int, 2) := by decide +kernel
theorem dX12_init_347 : decode cX12_init 347 = .ok (.putfield 135, 3) := by decide +kernel
theorem dX12_init_350 : decode cX12_init 350 = .ok (.aload_n 0, 1) := by decide +kernel
theorem dX12_init_351 : decode cX12_init 351 = .ok (.bipush 16, 2) := by decide +kernel
theorem dX12_init_353 : decode cX12_init 353 = .ok (.newarray .int, 2) := by decide +kernel
theorem dX12_init_355 : decode cX12_init 355 = .ok (.putfield 138, 3) := by decide +kernel
theorem dX12_init_358 : decode cX12_init 358 = .ok (.aload_n 0, 1) := by decide +kernel
theorem dX12_init_359 : decode cX12_init 359 = .ok (.sipush 427, 3) := by decide +kernel
theorem dX12_init_362 : decode cX12_init 362 = .ok (.newarray .int, 2) := by decide +kernel
theorem dX12_init_364 : decode cX12_init 364 = .ok (.putfield 141, 3) := by decide +kernel
theorem dX12_init_367 : decode cX12_init 367 = .ok (.aload_n 0, 1) := by decide +kernel
theorem dX12_init_368 : decode cX12_init 368 = .ok (.ldc 144, 2) := by decide +kernel
theorem dX12_init_370 : decode cX12_init 370 = .ok (.newarray .int, 2) := by decide +kernel
theorem dX12_init_372 : decode cX12_init 372 = .ok (.putfield 145, 3) := by decide +kernel
theorem dX12_init_375 : decode cX12_init 375 = .ok (.aload_n 0, 1) := by decide +kernel
theorem dX12_init_376 : decode cX12_init 376 = .ok (.iconst 3, 1) := by decide +kernel
theorem dX12_init_377 : decode cX12_init 377 = .ok (.newarray .long, 2) := by decide +kernel
theorem dX12_init_379 : decode cX12_init 379 = .ok (.putfield 148, 3) := by decide +kernel
theorem dX12_init_382 : decode cX12_init 382 = .ok (.aload_n 0, 1) := by decide +kernel
theorem dX12_init_383 : decode cX12_init 383 = .ok (.bipush 8, 2) := by decide +kernel
theorem dX12_init_385 : decode cX12_init 385 = .ok (.newarray .int, 2) := by decide +kernel
theorem dX12_init_387 : decode cX12_init 387 = .ok (.putfield 151, 3) := by decide +kernel
theorem dX12_init_390 : decode cX12_init 390 = .ok (.return_, 1) := by decide +kernel
theorem dX12_isIn_0 : decode cX12_isIn 0 = .ok (.iload_n 0, 1) := by decide +kernel
theorem dX12_isIn_1 : decode cX12_isIn 1 = .ok (.iload_n 1, 1) := by decide +kernel
theorem dX12_isIn_2 : decode cX12_isIn 2 = .ok (.if_icmp .lt 12, 3) := by decide +kernel
theorem dX12_isIn_5 : decode cX12_isIn 5 = .ok (.iload_n 0, 1) := by decide +kernel
theorem dX12_isIn_6 : decode cX12_isIn 6 = .ok (.iload_n 2, 1) := by decide +kernel
theorem dX12_isIn_7 : decode cX12_isIn 7 = .ok (.if_icmp .gt 7, 3) := by decide +kernel
theorem dX12_isIn_10 : decode cX12_isIn 10 = .ok (.iconst 1, 1) := by decide +kernel
theorem dX12_isIn_11 : decode cX12_isIn 11 = .ok (.goto 4, 3) := by decide +kernel
theorem dX12_isIn_14 : decode cX12_isIn 14 = .ok (.iconst 0, 1) := by decide +kernel
theorem dX12_isIn_15 : decode cX12_isIn 15 = .ok (.ireturn, 1) := by decide +kernel
theorem dX12_one_0 : decode cX12_one 0 = .ok (.iload_n 0, 1) := by decide +kernel
theorem dX12_one_1 : decode cX12_one 1 = .ok (.ifCond .eq 7, 3) := by decide +kernel
theorem dX12_one_4 : decode cX12_one 4 = .ok (.iconst 1, 1) := by decide +kernel
theorem dX12_one_5 : decode cX12_one 5 = .ok (.goto 4, 3) := by decide +kernel
theorem dX12_one_8 : decode cX12_one 8 = .ok (.iconst 0, 1) := by decide +kernel
theorem dX12_one_9 : decode cX12_one 9 = .ok (.ireturn, 1) := by decide +kernel
theorem dX12_has_0 : decode cX12_has 0 = .ok (.iload_n 0, 1) := by decide +kernel
theorem dX12_has_1 : decode cX12_has 1 = .ok (.iload_n 1, 1) := by decide +kernel
theorem dX12_has_2 : decode cX12_has 2 = .ok (.ishr, 1) := by decide +kernel
theorem dX12_has_3 : decode cX12_has 3 = .ok (.iconst 1, 1) := by decide +kernel
theorem dX12_has_4 : decode cX12_has 4 = .ok (.iand, 1) := by decide +kernel
theorem dX12_has_5 : decode cX12_has 5 = .ok (.iconst 1, 1) := by decide +kernel
theorem dX12_has_6 : decode cX12_has 6 = .ok (.if_icmp .ne 7, 3) := by decide +kernel
theorem dX12_has_9 : decode cX12_has 9 = .ok (.iconst 1, 1) := by decide +kernel
theorem dX12_has_10 : decode cX12_has 10 = .ok (.goto 4, 3) := by decide +kernel
theorem dX12_has_13 : decode cX12_has 13 = .ok (.iconst 0, 1) := by decide +kernel
theorem dX12_has_14 : decode cX12_has 14 = .ok (.ireturn, 1) := by decide +kernel
theorem dX12_isPerson_0 : decode cX12_isPerson 0 = .ok (.iload_n 1, 1) := by decide +kernel
theorem dX12_isPerson_1 : decode cX12_isPerson 1 = .ok (.iconst 0, 1) := by decide +kernel
theorem dX12_isPerson_2 : decode cX12_isPerson 2 = .ok (.aload_n 0, 1) := by decide +kernel
theorem dX12_isPerson_3 : decode cX12_isPerson 3 = .ok (.getfield 154, 3) := by decide +kernel
theorem dX12_isPerson_6 : decode cX12_isPerson 6 = .ok (.iconst 1, 1) := by decide +kernel
theorem dX12_isPerson_7 : decode cX12_isPerson 7 = .ok (.isub, 1) := by decide +kernel
theorem dX12_isPerson_8 : decode cX12_isPerson 8 = .ok (.invokestatic 157, 3) := by decide +kernel
theorem dX12_isPerson_11 : decode cX12_isPerson 11 = .ok (.ireturn, 1) := by decide +kernel
theorem dX12_isSeason_0 : decode cX12_isSeason 0 = .ok (.iload_n 1, 1) := by decide +kernel
theorem dX12_isSeason_1 : decode cX12_isSeason 1 = .ok (.iconst 0, 1) := by decide +kernel
theorem dX12_isSeason_2 : decode cX12_isSeason 2 = .ok (.aload_n 0, 1) := by decide +kernel
theorem dX12_isSeason_3 : decode cX12_isSeason 3 = .ok (.getfield 161, 3) := by decide +kernel
theorem dX12_isSeason_6 : decode cX12_isSeason 6 = .ok (.invokestatic 157, 3) := by decide +kernel
theorem dX12_isSeason_9 : decode cX12_isSeason 9 = .ok (.ireturn, 1) := by decide +kernel
theorem dX12_lengthAt_0 : decode cX12_lengthAt 0 = .ok (.aload_n 0, 1) := by decide +kernel
theorem dX12_lengthAt_1 : decode cX12_lengthAt 1 = .ok (.getfield 35, 3) := by decide +kernel
theorem dX12_lengthAt_4 : decode cX12_lengthAt 4 = .ok (.bipush 16, 2) := by decide +kernel
theorem dX12_lengthAt_6 : decode cX12_lengthAt 6 = .ok (.iload_n 2, 1) := by decide +kernel
theorem dX12_lengthAt_7 : decode cX12_lengthAt 7 = .ok (.imul, 1) := by decide +kernel
theorem dX12_lengthAt_8 : decode cX12_lengthAt 8 = .ok (.iload_n 1, 1) := by decide +kernel
theorem dX12_lengthAt_9 : decode cX12_lengthAt 9 = .ok (.iadd, 1) := by decide +kernel
theorem dX12_lengthAt_10 : decode cX12_lengthAt 10 = .ok (.iaload, 1) := by decide +kernel
theorem dX12_lengthAt_11 : decode cX12_lengthAt 11 = .ok (.ireturn, 1) := by decide +kernel
theorem dX12_houseAt_0 : decode cX12_houseAt 0 = .ok (.iload_n 2, 1) := by decide +kernel
theorem dX12_houseAt_1 : decode cX12_houseAt 1 = .ok (.aload_n 0, 1) := by decide +kernel
theorem dX12_houseAt_2 : decode cX12_houseAt 2 = .ok (.getfield 161, 3) := by decide +kernel
theorem dX12_houseAt_5 : decode cX12_houseAt 5 = .ok (.if_icmp .ne 12, 3) := by decide +kernel
theorem dX12_houseAt_8 : decode cX12_houseAt 8 = .ok (.aload_n 0, 1) := by decide +kernel
theorem dX12_houseAt_9 : decode cX12_houseAt 9 = .ok (.getfield 29, 3) := by decide +kernel
theorem dX12_houseAt_12 : decode cX12_houseAt 12 = .ok (.iload_n 1, 1) := by decide +kernel
theorem dX12_houseAt_13 : decode cX12_houseAt 13 = .ok (.iaload, 1) := by decide +kernel
theorem dX12_houseAt_14 : decode cX12_houseAt 14 = .ok (.goto 13, 3) := by decide +kernel
theorem dX12_houseAt_17 : decode cX12_houseAt 17 = .ok (.aload_n 0, 1) := by decide +kernel
theorem dX12_houseAt_18 : decode cX12_houseAt 18 = .ok (.getfield 47, 3) := by decide +kernel
theorem dX12_houseAt_21 : decode cX12_houseAt 21 = .ok (.iconst 4, 1) := by decide +kernel
theorem dX12_houseAt_22 : decode cX12_houseAt 22 = .ok (.iload_n 2, 1) := by decide +kernel
theorem dX12_houseAt_23 : decode cX12_houseAt 23 = .ok (.imul, 1) := by decide +kernel
theorem dX12_houseAt_24 : decode cX12_houseAt 24 = .ok (.iload_n 1, 1) := by decide +kernel
theorem dX12_houseAt_25 : decode cX12_houseAt 25 = .ok (.iadd, 1) := by decide +kernel
theorem dX12_houseAt_26 : decode cX12_houseAt 26 = .ok (.iaload, 1) := by decide +kernel
theorem dX12_houseAt_27 : decode cX12_houseAt 27 = .ok (.ireturn, 1) := by decide +kernel
theorem dX12_moneyAt_0 : decode cX12_moneyAt 0 = .ok (.iload_n 1, 1) := by decide +kernel
theorem dX12_moneyAt_1 : decode cX12_moneyAt 1 = .ok (.aload_n 0, 1) := by decide +kernel
theorem dX12_moneyAt_2 : decode cX12_moneyAt 2 = .ok (.getfield 161, 3) := by decide +kernel
theorem dX12_moneyAt_5 : decode cX12_moneyAt 5 = .ok (.if_icmp .ne 10, 3) := by decide +kernel
theorem dX12_moneyAt_8 : decode cX12_moneyAt 8 = .ok (.aload_n 0, 1) := by decide +kernel
theorem dX12_moneyAt_9 : decode cX12_moneyAt 9 = .ok (.getfield 164, 3) := by decide +kernel
theorem dX12_moneyAt_12 : decode cX12_moneyAt 12 = .ok (.goto 9, 3) := by decide +kernel
theorem dX12_moneyAt_15 : decode cX12_moneyAt 15 = .ok (.aload_n 0, 1) := by decide +kernel
theorem dX12_moneyAt_16 : decode cX12_moneyAt 16 = .ok (.getfield 50, 3) := by decide +kernel
theorem dX12_moneyAt_19 : decode cX12_moneyAt 19 = .ok (.iload_n 1, 1) := by decide +kernel
theorem dX12_moneyAt_20 : decode cX12_moneyAt 20 = .ok (.iaload, 1) := by decide +kernel
theorem dX12_moneyAt_21 : decode cX12_moneyAt 21 = .ok (.ireturn, 1) := by decide +kernel
theorem dX12_person_0 : decode cX12_person 0 = .ok (.iload_n 1, 1) := by decide +kernel
theorem dX12_person_1 : decode cX12_person 1 = .ok (.iconst 0, 1) := by decide +kernel
theorem dX12_person_2 : decode cX12_person 2 = .ok (.bipush 9, 2) := by decide +kernel
theorem dX12_person_4 : decode cX12_person 4 = .ok (.invokestatic 157, 3) := by decide +kernel
theorem dX12_person_7 : decode cX12_person 7 = .ok (.ifCond .eq 39, 3) := by decide +kernel
theorem dX12_person_10 : decode cX12_person 10 = .ok (.iload_n 2, 1) := by decide +kernel
theorem dX12_person_11 : decode cX12_person 11 = .ok (.iconst 0, 1) := by decide +kernel
theorem dX12_person_12 : decode cX12_person 12 = .ok (.bipush 99, 2) := by decide +kernel
theorem dX12_person_14 : decode cX12_person 14 = .ok (.invokestatic 157, 3) := by decide +kernel
theorem dX12_person_17 : decode cX12_person 17 = .ok (.ifCond .eq 29, 3) := by decide +kernel
theorem dX12_person_20 : decode cX12_person 20 = .ok (.iload_n 3, 1) := by decide +kernel
theorem dX12_person_21 : decode cX12_person 21 = .ok (.iconst 0, 1) := by decide +kernel
theorem dX12_person_22 : decode cX12_person 22 = .ok (.bipush 60, 2) := by decide +kernel
theorem dX12_person_24 : decode cX12_person 24 = .ok (.invokestatic 157, 3) := by decide +kernel
theorem dX12_person_27 : decode cX12_person 27 = .ok (.ifCond .eq 19, 3) := by decide +kernel
theorem dX12_person_30 : decode cX12_person 30 = .ok (.aload_n 0, 1) := by decide +kernel
theorem dX12_person_31 : decode cX12_person 31 = .ok (.getfield 154, 3) := by decide +kernel
theorem dX12_person_34 : decode cX12_person 34 = .ok (.bipush 16, 2) := by decide +kernel
theorem dX12_person_36 : decode cX12_person 36 = .ok (.if_icmp .eq 10, 3) := by decide +kernel
theorem dX12_person_39 : decode cX12_person 39 = .ok (.aload_n 0, 1) := by decide +kernel
theorem dX12_person_40 : decode cX12_person 40 = .ok (.getfield 161, 3) := by decide +kernel
theorem dX12_person_43 : decode cX12_person 43 = .ok (.ifCond .le 5, 3) := by decide +kernel
theorem dX12_person_46 : decode cX12_person 46 = .ok (.iconst (-1), 1) := by decide +kernel
theorem dX12_person_47 : decode cX12_person 47 = .ok (.ireturn, 1) := by decide +kernel
theorem dX12_person_48 : decode cX12_person 48 = .ok (.aload_n 0, 1) := by decide +kernel
theorem dX12_person_49 : decode cX12_person 49 = .ok (.getfield 13, 3) := by decide +kernel
theorem dX12_person_52 : decode cX12_person 52 = .ok (.aload_n 0, 1) := by decide +kernel
theorem dX12_person_53 : decode cX12_person 53 = .ok (.getfield 154, 3) := by decide +kernel
theorem dX12_person_56 : decode cX12_person 56 = .ok (.iload_n 1, 1) := by decide +kernel
theorem dX12_person_57 : decode cX12_person 57 = .ok (.iastore, 1) := by decide +kernel
theorem dX12_person_58 : decode cX12_person 58 = .ok (.aload_n 0, 1) := by decide +kernel
theorem dX12_person_59 : decode cX12_person 59 = .ok (.getfield 17, 3) := by decide +kernel
theorem dX12_person_62 : decode cX12_person 62 = .ok (.aload_n 0, 1) := by decide +kernel
theorem dX12_person_63 : decode cX12_person 63 = .ok (.getfield 154, 3) := by decide +kernel
theorem dX12_person_66 : decode cX12_person 66 = .ok (.iload_n 2, 1) := by decide +kernel
theorem dX12_person_67 : decode cX12_person 67 = .ok (.iastore, 1) := by decide +kernel
theorem dX12_person_68 : decode cX12_person 68 = .ok (.aload_n 0, 1) := by decide +kernel
theorem dX12_person_69 : decode cX12_person 69 = .ok (.getfield 35, 3) := by decide +kernel
theorem dX12_person_72 : decode cX12_person 72 = .ok (.aload_n 0, 1) := by decide +kernel
theorem dX12_person_73 : decode cX12_person 73 = .ok (.getfield 154, 3) := by decide +kernel
theorem dX12_person_76 : decode cX12_person 76 = .ok (.iload_n 3, 1) := by decide +kernel
theorem dX12_person_77 : decode cX12_person 77 = .ok (.iastore, 1) := by decide +kernel
theorem dX12_person_78 : decode cX12_person 78 = .ok (.aload_n 0, 1) := by decide +kernel
theorem dX12_person_79 : decode cX12_person 79 = .ok (.getfield 20, 3) := by decide +kernel
theorem dX12_person_82 : decode cX12_person 82 = .ok (.aload_n 0, 1) := by decide +kernel
theorem dX12_person_83 : decode cX12_person 83 = .ok (.getfield 154, 3) := by decide +kernel
theorem dX12_person_86 : decode cX12_person 86 = .ok (.iconst 0, 1) := by decide +kernel
theorem dX12_person_87 : decode cX12_person 87 = .ok (.iastore, 1) := by decide +kernel
theorem dX12_person_88 : decode cX12_person 88 = .ok (.aload_n 0, 1) := by decide +kernel
theorem dX12_person_89 : decode cX12_person 89 = .ok (.getfield 23, 3) := by decide +kernel
theorem dX12_person_92 : decode cX12_person 92 = .ok (.aload_n 0, 1) := by decide +kernel
theorem dX12_person_93 : decode cX12_person 93 = .ok (.getfield 154, 3) := by decide +kernel
theorem dX12_person_96 : decode cX12_person 96 = .ok (.iconst 0, 1) := by decide +kernel
theorem dX12_person_97 : decode cX12_person 97 = .ok (.iastore, 1) := by decide +kernel
theorem dX12_person_98 : decode cX12_person 98 = .ok (.aload_n 0, 1) := by decide +kernel
theorem dX12_person_99 : decode cX12_person 99 = .ok (.getfield 26, 3) := by decide +kernel
theorem dX12_person_102 : decode cX12_person 102 = .ok (.aload_n 0, 1) := by decide +kernel
theorem dX12_person_103 : decode cX12_person 103 = .ok (.getfield 154, 3) := by decide +kernel
theorem dX12_person_106 : decode cX12_person 106 = .ok (.iconst 0, 1) := by decide +kernel
theorem dX12_person_107 : decode cX12_person 107 = .ok (.iastore, 1) := by decide +kernel
theorem dX12_person_108 : decode cX12_person 108 = .ok (.iconst 0, 1) := by decide +kernel
theorem dX12_person_109 : decode cX12_person 109 = .ok (.istore 4, 2) := by decide +kernel
theorem dX12_person_111 : decode cX12_person 111 = .ok (.iload 4, 2) := by decide +kernel
theorem dX12_person_113 : decode cX12_person 113 = .ok (.bipush 6, 2) := by decide +kernel
theorem dX12_person_115 : decode cX12_person 115 = .ok (.if_icmp .ge 25, 3) := by decide +kernel
theorem dX12_person_118 : decode cX12_person 118 = .ok (.aload_n 0, 1) := by decide +kernel
theorem dX12_person_119 : decode cX12_person 119 = .ok (.getfield 32, 3) := by decide +kernel
theorem dX12_person_122 : decode cX12_person 122 = .ok (.bipush 6, 2) := by decide +kernel
theorem dX12_person_124 : decode cX12_person 124 = .ok (.aload_n 0, 1) := by decide +kernel
theorem dX12_person_125 : decode cX12_person 125 = .ok (.getfield 154, 3) := by decide +kernel
theorem dX12_person_128 : decode cX12_person 128 = .ok (.imul, 1) := by decide +kernel
theorem dX12_person_129 : decode cX12_person 129 = .ok (.iload 4, 2) := by decide +kernel
theorem dX12_person_131 : decode cX12_person 131 = .ok (.iadd, 1) := by decide +kernel
theorem dX12_person_132 : decode cX12_person 132 = .ok (.iconst 0, 1) := by decide +kernel
theorem dX12_person_133 : decode cX12_person 133 = .ok (.iastore, 1) := by decide +kernel
theorem dX12_person_134 : decode cX12_person 134 = .ok (.iinc 4 1, 3) := by decide +kernel
theorem dX12_person_137 : decode cX12_person 137 = .ok (.goto (-26), 3) := by decide +kernel
theorem dX12_person_140 : decode cX12_person 140 = .ok (.aload_n 0, 1) := by decide +kernel
theorem dX12_person_141 : decode cX12_person 141 = .ok (.dup, 1) := by decide +kernel
theorem dX12_person_142 : decode cX12_person 142 = .ok (.getfield 154, 3) := by decide +kernel
theorem dX12_person_145 : decode cX12_person 145 = .ok (.iconst 1, 1) := by decide +kernel
theorem dX12_person_146 : decode cX12_person 146 = .ok (.iadd, 1) := by decide +kernel
theorem dX12_person_147 : decode cX12_person 147 = .ok (.putfield 154, 3) := by decide +kernel
theorem dX12_person_150 : decode cX12_person 150 = .ok (.aload_n 0, 1) := by decide +kernel
theorem dX12_person_151 : decode cX12_person 151 = .ok (.getfield 154, 3) := by decide +kernel
theorem dX12_person_154 : decode cX12_person 154 = .ok (.iconst 1, 1) := by decide +kernel
theorem dX12_person_155 : decode cX12_person 155 = .ok (.isub, 1) := by decide +kernel
theorem dX12_person_156 : decode cX12_person 156 = .ok (.ireturn, 1) := by decide +kernel
theorem dX12_sees_0 : decode cX12_sees 0 = .ok (.aload_n 0, 1) := by decide +kernel
theorem dX12_sees_1 : decode cX12_sees 1 = .ok (.iload_n 1, 1) := by decide +kernel
theorem dX12_sees_2 : decode cX12_sees 2 = .ok (.invokevirtual 167, 3) := by decide +kernel
theorem dX12_sees_5 : decode cX12_sees 5 = .ok (.ifCond .eq 16, 3) := by decide +kernel
theorem dX12_sees_8 : decode cX12_sees 8 = .ok (.aload_n 0, 1) := by decide +kernel
theorem dX12_sees_9 : decode cX12_sees 9 = .ok (.iload_n 2, 1) := by decide +kernel
theorem dX12_sees_10 : decode cX12_sees 10 = .ok (.invokevirtual 167, 3) := by decide +kernel
theorem dX12_sees_13 : decode cX12_sees 13 = .ok (.ifCond .eq 8, 3) := by decide +kernel
theorem dX12_sees_16 : decode cX12_sees 16 = .ok (.iload_n 1, 1) := by decide +kernel
theorem dX12_sees_17 : decode cX12_sees 17 = .ok (.iload_n 2, 1) := by decide +kernel
theorem dX12_sees_18 : decode cX12_sees 18 = .ok (.if_icmp .ne 5, 3) := by decide +kernel
theorem dX12_sees_21 : decode cX12_sees 21 = .ok (.iconst 0, 1) := by decide +kernel
theorem dX12_sees_22 : decode cX12_sees 22 = .ok (.ireturn, 1) := by decide +kernel
theorem dX12_sees_23 : decode cX12_sees 23 = .ok (.aload_n 0, 1) := by decide +kernel
theorem dX12_sees_24 : decode cX12_sees 24 = .ok (.getfield 26, 3) := by decide +kernel
theorem dX12_sees_27 : decode cX12_sees 27 = .ok (.iload_n 1, 1) := by decide +kernel
theorem dX12_sees_28 : decode cX12_sees 28 = .ok (.iload_n 3, 1) := by decide +kernel
theorem dX12_sees_29 : decode cX12_sees 29 = .ok (.ifCond .eq 16, 3) := by decide +kernel
theorem dX12_sees_32 : decode cX12_sees 32 = .ok (.aload_n 0, 1) := by decide +kernel
theorem dX12_sees_33 : decode cX12_sees 33 = .ok (.getfield 26, 3) := by decide +kernel
theorem dX12_sees_36 : decode cX12_sees 36 = .ok (.iload_n 1, 1) := by decide +kernel
theorem dX12_sees_37 : decode cX12_sees 37 = .ok (.iaload, 1) := by decide +kernel
theorem dX12_sees_38 : decode cX12_sees 38 = .ok (.iconst 1, 1) := by decide +kernel
theorem dX12_sees_39 : decode cX12_sees 39 = .ok (.iload_n 2, 1) := by decide +kernel
theorem dX12_sees_40 : decode cX12_sees 40 = .ok (.ishl, 1) := by decide +kernel
theorem dX12_sees_41 : decode cX12_sees 41 = .ok (.ior, 1) := by decide +kernel
theorem dX12_sees_42 : decode cX12_sees 42 = .ok (.goto 15, 3) := by decide +kernel
theorem dX12_sees_45 : decode cX12_sees 45 = .ok (.aload_n 0, 1) := by decide +kernel
theorem dX12_sees_46 : decode cX12_sees 46 = .ok (.getfield 26, 3) := by decide +kernel
theorem dX12_sees_49 : decode cX12_sees 49 = .ok (.iload_n 1, 1) := by decide +kernel
theorem dX12_sees_50 : decode cX12_sees 50 = .ok (.iaload, 1) := by decide +kernel
theorem dX12_sees_51 : decode cX12_sees 51 = .ok (.iconst 1, 1) := by decide +kernel
theorem dX12_sees_52 : decode cX12_sees 52 = .ok (.iload_n 2, 1) := by decide +kernel
theorem dX12_sees_53 : decode cX12_sees 53 = .ok (.ishl, 1) := by decide +kernel
theorem dX12_sees_54 : decode cX12_sees 54 = .ok (.iconst (-1), 1) := by decide +kernel
theorem dX12_sees_55 : decode cX12_sees 55 = .ok (.ixor, 1) := by decide +kernel
theorem dX12_sees_56 : decode cX12_sees 56 = .ok (.iand, 1) := by decide +kernel
theorem dX12_sees_57 : decode cX12_sees 57 = .ok (.iastore, 1) := by decide +kernel
theorem dX12_sees_58 : decode cX12_sees 58 = .ok (.iconst 1, 1) := by decide +kernel
theorem dX12_sees_59 : decode cX12_sees 59 = .ok (.ireturn, 1) := by decide +kernel
theorem dX12_shows_0 : decode cX12_shows 0 = .ok (.iload_n 1, 1) := by decide +kernel
theorem dX12_shows_1 : decode cX12_shows 1 = .ok (.iconst 0, 1) := by decide +kernel
theorem dX12_shows_2 : decode cX12_shows 2 = .ok (.iconst 3, 1) := by decide +kernel
theorem dX12_shows_3 : decode cX12_shows 3 = .ok (.invokestatic 157, 3) := by decide +kernel
theorem dX12_shows_6 : decode cX12_shows 6 = .ok (.ifCond .eq 13, 3) := by decide +kernel
theorem dX12_shows_9 : decode cX12_shows 9 = .ok (.iload_n 2, 1) := by decide +kernel
theorem dX12_shows_10 : decode cX12_shows 10 = .ok (.iconst (-1), 1) := by decide +kernel
theorem dX12_shows_11 : decode cX12_shows 11 = .ok (.bipush 60, 2) := by decide +kernel
theorem dX12_shows_13 : decode cX12_shows 13 = .ok (.invokestatic 157, 3) := by decide +kernel
theorem dX12_shows_16 : decode cX12_shows 16 = .ok (.ifCond .ne 5, 3) := by decide +kernel
theorem dX12_shows_19 : decode cX12_shows 19 = .ok (.iconst 0, 1) := by decide +kernel
theorem dX12_shows_20 : decode cX12_shows 20 = .ok (.ireturn, 1) := by decide +kernel
theorem dX12_shows_21 : decode cX12_shows 21 = .ok (.aload_n 0, 1) := by decide +kernel
theorem dX12_shows_22 : decode cX12_shows 22 = .ok (.getfield 29, 3) := by decide +kernel
theorem dX12_shows_25 : decode cX12_shows 25 = .ok (.iload_n 1, 1) := by decide +kernel
theorem dX12_shows_26 : decode cX12_shows 26 = .ok (.iload_n 2, 1) := by decide +kernel
theorem dX12_shows_27 : decode cX12_shows 27 = .ok (.iastore, 1) := by decide +kernel
theorem dX12_shows_28 : decode cX12_shows 28 = .ok (.iconst 1, 1) := by decide +kernel
theorem dX12_shows_29 : decode cX12_shows 29 = .ok (.ireturn, 1) := by decide +kernel
theorem dX12_money_0 : decode cX12_money 0 = .ok (.iload_n 1, 1) := by decide +kernel
theorem dX12_money_1 : decode cX12_money 1 = .ok (.iconst 0, 1) := by decide +kernel
theorem dX12_money_2 : decode cX12_money 2 = .ok (.bipush 99, 2) := by decide +kernel
theorem dX12_money_4 : decode cX12_money 4 = .ok (.invokestatic 157, 3) := by decide +kernel
theorem dX12_money_7 : decode cX12_money 7 = .ok (.ifCond .ne 5, 3) := by decide +kernel
theorem dX12_money_10 : decode cX12_money 10 = .ok (.iconst 0, 1) := by decide +kernel
theorem dX12_money_11 : decode cX12_money 11 = .ok (.ireturn, 1) := by decide +kernel
theorem dX12_money_12 : decode cX12_money 12 = .ok (.aload_n 0, 1) := by decide +kernel
theorem dX12_money_13 : decode cX12_money 13 = .ok (.iload_n 1, 1) := by decide +kernel
theorem dX12_money_14 : decode cX12_money 14 = .ok (.putfield 164, 3) := by decide +kernel
theorem dX12_money_17 : decode cX12_money 17 = .ok (.iconst 1, 1) := by decide +kernel
theorem dX12_money_18 : decode cX12_money 18 = .ok (.ireturn, 1) := by decide +kernel
theorem dX12_set_0 : decode cX12_set 0 = .ok (.iload_n 1, 1) := by decide +kernel
theorem dX12_set_1 : decode cX12_set 1 = .ok (.iconst 0, 1) := by decide +kernel
theorem dX12_set_2 : decode cX12_set 2 = .ok (.sipush 999, 3) := by decide +kernel
theorem dX12_set_5 : decode cX12_set 5 = .ok (.invokestatic 157, 3) := by decide +kernel
theorem dX12_set_8 : decode cX12_set 8 = .ok (.ifCond .eq 23, 3) := by decide +kernel
theorem dX12_set_11 : decode cX12_set 11 = .ok (.iload_n 2, 1) := by decide +kernel
theorem dX12_set_12 : decode cX12_set 12 = .ok (.iconst 0, 1) := by decide +kernel
theorem dX12_set_13 : decode cX12_set 13 = .ok (.bipush 9, 2) := by decide +kernel
theorem dX12_set_15 : decode cX12_set 15 = .ok (.invokestatic 157, 3) := by decide +kernel
theorem dX12_set_18 : decode cX12_set 18 = .ok (.ifCond .eq 13, 3) := by decide +kernel
theorem dX12_set_21 : decode cX12_set 21 = .ok (.iload_n 3, 1) := by decide +kernel
theorem dX12_set_22 : decode cX12_set 22 = .ok (.iconst 0, 1) := by decide +kernel
theorem dX12_set_23 : decode cX12_set 23 = .ok (.bipush 99, 2) := by decide +kernel
theorem dX12_set_25 : decode cX12_set 25 = .ok (.invokestatic 157, 3) := by decide +kernel
theorem dX12_set_28 : decode cX12_set 28 = .ok (.ifCond .ne 5, 3) := by decide +kernel
theorem dX12_set_31 : decode cX12_set 31 = .ok (.iconst 0, 1) := by decide +kernel
theorem dX12_set_32 : decode cX12_set 32 = .ok (.ireturn, 1) := by decide +kernel
theorem dX12_set_33 : decode cX12_set 33 = .ok (.aload_n 0, 1) := by decide +kernel
theorem dX12_set_34 : decode cX12_set 34 = .ok (.iload_n 1, 1) := by decide +kernel
theorem dX12_set_35 : decode cX12_set 35 = .ok (.putfield 171, 3) := by decide +kernel
theorem dX12_set_38 : decode cX12_set 38 = .ok (.aload_n 0, 1) := by decide +kernel
theorem dX12_set_39 : decode cX12_set 39 = .ok (.iload_n 2, 1) := by decide +kernel
theorem dX12_set_40 : decode cX12_set 40 = .ok (.putfield 174, 3) := by decide +kernel
theorem dX12_set_43 : decode cX12_set 43 = .ok (.aload_n 0, 1) := by decide +kernel
theorem dX12_set_44 : decode cX12_set 44 = .ok (.iload_n 3, 1) := by decide +kernel
theorem dX12_set_45 : decode cX12_set 45 = .ok (.putfield 177, 3) := by decide +kernel
theorem dX12_set_48 : decode cX12_set 48 = .ok (.iconst 1, 1) := by decide +kernel
theorem dX12_set_49 : decode cX12_set 49 = .ok (.ireturn, 1) := by decide +kernel
theorem dX12_seed_0 : decode cX12_seed 0 = .ok (.iload_n 1, 1) := by decide +kernel
theorem dX12_seed_1 : decode cX12_seed 1 = .ok (.iconst 0, 1) := by decide +kernel
theorem dX12_seed_2 : decode cX12_seed 2 = .ok (.ldc 180, 2) := by decide +kernel
theorem dX12_seed_4 : decode cX12_seed 4 = .ok (.invokestatic 157, 3) := by decide +kernel
theorem dX12_seed_7 : decode cX12_seed 7 = .ok (.ifCond .ne 5, 3) := by decide +kernel
theorem dX12_seed_10 : decode cX12_seed 10 = .ok (.iconst 0, 1) := by decide +kernel
theorem dX12_seed_11 : decode cX12_seed 11 = .ok (.ireturn, 1) := by decide +kernel
theorem dX12_seed_12 : decode cX12_seed 12 = .ok (.aload_n 0, 1) := by decide +kernel
theorem dX12_seed_13 : decode cX12_seed 13 = .ok (.iload_n 1, 1) := by decide +kernel
theorem dX12_seed_14 : decode cX12_seed 14 = .ok (.i2l, 1) := by decide +kernel
theorem dX12_seed_15 : decode cX12_seed 15 = .ok (.putfield 7, 3) := by decide +kernel
theorem dX12_seed_18 : decode cX12_seed 18 = .ok (.iconst 1, 1) := by decide +kernel
theorem dX12_seed_19 : decode cX12_seed 19 = .ok (.ireturn, 1) := by decide +kernel
theorem dX12_feed_0 : decode cX12_feed 0 = .ok (.aload_n 0, 1) := by decide +kernel
theorem dX12_feed_1 : decode cX12_feed 1 = .ok (.getfield 181, 3) := by decide +kernel
theorem dX12_feed_4 : decode cX12_feed 4 = .ok (.bipush 20, 2) := by decide +kernel
theorem dX12_feed_6 : decode cX12_feed 6 = .ok (.iadd, 1) := by decide +kernel
theorem dX12_feed_7 : decode cX12_feed 7 = .ok (.sipush 700, 3) := by decide +kernel
theorem dX12_feed_10 : decode cX12_feed 10 = .ok (.if_icmp .le 5, 3) := by decide +kernel
theorem dX12_feed_13 : decode cX12_feed 13 = .ok (.iconst (-1), 1) := by decide +kernel
theorem dX12_feed_14 : decode cX12_feed 14 = .ok (.ireturn, 1) := by decide +kernel
theorem dX12_feed_15 : decode cX12_feed 15 = .ok (.aload_n 0, 1) := by decide +kernel
theorem dX12_feed_16 : decode cX12_feed 16 = .ok (.iload_n 1, 1) := by decide +kernel
theorem dX12_feed_17 : decode cX12_feed 17 = .ok (.invokevirtual 184, 3) := by decide +kernel
theorem dX12_feed_20 : decode cX12_feed 20 = .ok (.aload_n 0, 1) := by decide +kernel
theorem dX12_feed_21 : decode cX12_feed 21 = .ok (.iload_n 2, 1) := by decide +kernel
theorem dX12_feed_22 : decode cX12_feed 22 = .ok (.invokevirtual 184, 3) := by decide +kernel
theorem dX12_feed_25 : decode cX12_feed 25 = .ok (.aload_n 0, 1) := by decide +kernel
theorem dX12_feed_26 : decode cX12_feed 26 = .ok (.iload_n 3, 1) := by decide +kernel
theorem dX12_feed_27 : decode cX12_feed 27 = .ok (.invokevirtual 184, 3) := by decide +kernel
theorem dX12_feed_30 : decode cX12_feed 30 = .ok (.aload_n 0, 1) := by decide +kernel
theorem dX12_feed_31 : decode cX12_feed 31 = .ok (.iload 4, 2) := by decide +kernel
theorem dX12_feed_33 : decode cX12_feed 33 = .ok (.invokevirtual 184, 3) := by decide +kernel
theorem dX12_feed_36 : decode cX12_feed 36 = .ok (.aload_n 0, 1) := by decide +kernel
theorem dX12_feed_37 : decode cX12_feed 37 = .ok (.iload 5, 2) := by decide +kernel
theorem dX12_feed_39 : decode cX12_feed 39 = .ok (.invokevirtual 184, 3) := by decide +kernel
theorem dX12_feed_42 : decode cX12_feed 42 = .ok (.aload_n 0, 1) := by decide +kernel
theorem dX12_feed_43 : decode cX12_feed 43 = .ok (.getfield 181, 3) := by decide +kernel
theorem dX12_feed_46 : decode cX12_feed 46 = .ok (.ireturn, 1) := by decide +kernel
theorem dX12_four_0 : decode cX12_four 0 = .ok (.bipush 24, 2) := by decide +kernel
theorem dX12_four_2 : decode cX12_four 2 = .ok (.istore_n 2, 1) := by decide +kernel
theorem dX12_four_3 : decode cX12_four 3 = .ok (.iload_n 2, 1) := by decide +kernel
theorem dX12_four_4 : decode cX12_four 4 = .ok (.ifCond .lt 32, 3) := by decide +kernel
theorem dX12_four_7 : decode cX12_four 7 = .ok (.aload_n 0, 1) := by decide +kernel
theorem dX12_four_8 : decode cX12_four 8 = .ok (.getfield 94, 3) := by decide +kernel
theorem dX12_four_11 : decode cX12_four 11 = .ok (.aload_n 0, 1) := by decide +kernel
theorem dX12_four_12 : decode cX12_four 12 = .ok (.getfield 181, 3) := by decide +kernel
theorem dX12_four_15 : decode cX12_four 15 = .ok (.iload_n 1, 1) := by decide +kernel
theorem dX12_four_16 : decode cX12_four 16 = .ok (.iload_n 2, 1) := by decide +kernel
theorem dX12_four_17 : decode cX12_four 17 = .ok (.ishr, 1) := by decide +kernel
theorem dX12_four_18 : decode cX12_four 18 = .ok (.i2b, 1) := by decide +kernel
theorem dX12_four_19 : decode cX12_four 19 = .ok (.bastore, 1) := by decide +kernel
theorem dX12_four_20 : decode cX12_four 20 = .ok (.aload_n 0, 1) := by decide +kernel
theorem dX12_four_21 : decode cX12_four 21 = .ok (.dup, 1) := by decide +kernel
theorem dX12_four_22 : decode cX12_four 22 = .ok (.getfield 181, 3) := by decide +kernel
theorem dX12_four_25 : decode cX12_four 25 = .ok (.iconst 1, 1) := by decide +kernel
theorem dX12_four_26 : decode cX12_four 26 = .ok (.iadd, 1) := by decide +kernel
theorem dX12_four_27 : decode cX12_four 27 = .ok (.putfield 181, 3) := by decide +kernel
theorem dX12_four_30 : decode cX12_four 30 = .ok (.iinc 2 (-8), 3) := by decide +kernel
theorem dX12_four_33 : decode cX12_four 33 = .ok (.goto (-30), 3) := by decide +kernel
theorem dX12_four_36 : decode cX12_four 36 = .ok (.return_, 1) := by decide +kernel
theorem dX12_blanks_0 : decode cX12_blanks 0 = .ok (.aload_n 0, 1) := by decide +kernel
theorem dX12_blanks_1 : decode cX12_blanks 1 = .ok (.getfield 188, 3) := by decide +kernel
theorem dX12_blanks_4 : decode cX12_blanks 4 = .ok (.aload_n 0, 1) := by decide +kernel
theorem dX12_blanks_5 : decode cX12_blanks 5 = .ok (.getfield 191, 3) := by decide +kernel
theorem dX12_blanks_8 : decode cX12_blanks 8 = .ok (.if_icmp .ge 44, 3) := by decide +kernel
theorem dX12_blanks_11 : decode cX12_blanks 11 = .ok (.aload_n 0, 1) := by decide +kernel
theorem dX12_blanks_12 : decode cX12_blanks 12 = .ok (.getfield 98, 3) := by decide +kernel
theorem dX12_blanks_15 : decode cX12_blanks 15 = .ok (.aload_n 0, 1) := by decide +kernel
theorem dX12_blanks_16 : decode cX12_blanks 16 = .ok (.getfield 188, 3) := by decide +kernel
theorem dX12_blanks_19 : decode cX12_blanks 19 = .ok (.baload, 1) := by decide +kernel
theorem dX12_blanks_20 : decode cX12_blanks 20 = .ok (.bipush 32, 2) := by decide +kernel
theorem dX12_blanks_22 : decode cX12_blanks 22 = .ok (.if_icmp .eq 17, 3) := by decide +kernel
theorem dX12_blanks_25 : decode cX12_blanks 25 = .ok (.aload_n 0, 1) := by decide +kernel
theorem dX12_blanks_26 : decode cX12_blanks 26 = .ok (.getfield 98, 3) := by decide +kernel
theorem dX12_blanks_29 : decode cX12_blanks 29 = .ok (.aload_n 0, 1) := by decide +kernel
theorem dX12_blanks_30 : decode cX12_blanks 30 = .ok (.getfield 188, 3) := by decide +kernel
theorem dX12_blanks_33 : decode cX12_blanks 33 = .ok (.baload, 1) := by decide +kernel
theorem dX12_blanks_34 : decode cX12_blanks 34 = .ok (.bipush 10, 2) := by decide +kernel
theorem dX12_blanks_36 : decode cX12_blanks 36 = .ok (.if_icmp .ne 16, 3) := by decide +kernel
theorem dX12_blanks_39 : decode cX12_blanks 39 = .ok (.aload_n 0, 1) := by decide +kernel
theorem dX12_blanks_40 : decode cX12_blanks 40 = .ok (.dup, 1) := by decide +kernel
theorem dX12_blanks_41 : decode cX12_blanks 41 = .ok (.getfield 188, 3) := by decide +kernel
theorem dX12_blanks_44 : decode cX12_blanks 44 = .ok (.iconst 1, 1) := by decide +kernel
theorem dX12_blanks_45 : decode cX12_blanks 45 = .ok (.iadd, 1) := by decide +kernel
theorem dX12_blanks_46 : decode cX12_blanks 46 = .ok (.putfield 188, 3) := by decide +kernel
theorem dX12_blanks_49 : decode cX12_blanks 49 = .ok (.goto (-49), 3) := by decide +kernel
theorem dX12_blanks_52 : decode cX12_blanks 52 = .ok (.return_, 1) := by decide +kernel
theorem dX12_word_0 : decode cX12_word 0 = .ok (.aload_n 0, 1) := by decide +kernel
theorem dX12_word_1 : decode cX12_word 1 = .ok (.invokevirtual 194, 3) := by decide +kernel
theorem dX12_word_4 : decode cX12_word 4 = .ok (.aload_n 0, 1) := by decide +kernel
theorem dX12_word_5 : decode cX12_word 5 = .ok (.aload_n 0, 1) := by decide +kernel
theorem dX12_word_6 : decode cX12_word 6 = .ok (.getfield 188, 3) := by decide +kernel
theorem dX12_word_9 : decode cX12_word 9 = .ok (.putfield 197, 3) := by decide +kernel
theorem dX12_word_12 : decode cX12_word 12 = .ok (.lconst 0, 1) := by decide +kernel
theorem dX12_word_13 : decode cX12_word 13 = .ok (.lstore_n 1, 1) := by decide +kernel
theorem dX12_word_14 : decode cX12_word 14 = .ok (.aload_n 0, 1) := by decide +kernel
theorem dX12_word_15 : decode cX12_word 15 = .ok (.getfield 197, 3) := by decide +kernel
theorem dX12_word_18 : decode cX12_word 18 = .ok (.aload_n 0, 1) := by decide +kernel
theorem dX12_word_19 : decode cX12_word 19 = .ok (.getfield 191, 3) := by decide +kernel
theorem dX12_word_22 : decode cX12_word 22 = .ok (.if_icmp .ge 78, 3) := by decide +kernel
theorem dX12_word_25 : decode cX12_word 25 = .ok (.aload_n 0, 1) := by decide +kernel
theorem dX12_word_26 : decode cX12_word 26 = .ok (.getfield 98, 3) := by decide +kernel
theorem dX12_word_29 : decode cX12_word 29 = .ok (.aload_n 0, 1) := by decide +kernel
theorem dX12_word_30 : decode cX12_word 30 = .ok (.getfield 197, 3) := by decide +kernel
theorem dX12_word_33 : decode cX12_word 33 = .ok (.baload, 1) := by decide +kernel
theorem dX12_word_34 : decode cX12_word 34 = .ok (.bipush 97, 2) := by decide +kernel
theorem dX12_word_36 : decode cX12_word 36 = .ok (.if_icmp .lt 64, 3) := by decide +kernel
theorem dX12_word_39 : decode cX12_word 39 = .ok (.aload_n 0, 1) := by decide +kernel
theorem dX12_word_40 : decode cX12_word 40 = .ok (.getfield 98, 3) := by decide +kernel
theorem dX12_word_43 : decode cX12_word 43 = .ok (.aload_n 0, 1) := by decide +kernel
theorem dX12_word_44 : decode cX12_word 44 = .ok (.getfield 197, 3) := by decide +kernel
theorem dX12_word_47 : decode cX12_word 47 = .ok (.baload, 1) := by decide +kernel
theorem dX12_word_48 : decode cX12_word 48 = .ok (.bipush 122, 2) := by decide +kernel
theorem dX12_word_50 : decode cX12_word 50 = .ok (.if_icmp .gt 50, 3) := by decide +kernel
theorem dX12_word_53 : decode cX12_word 53 = .ok (.aload_n 0, 1) := by decide +kernel
theorem dX12_word_54 : decode cX12_word 54 = .ok (.getfield 197, 3) := by decide +kernel
theorem dX12_word_57 : decode cX12_word 57 = .ok (.aload_n 0, 1) := by decide +kernel
theorem dX12_word_58 : decode cX12_word 58 = .ok (.getfield 188, 3) := by decide +kernel
theorem dX12_word_61 : decode cX12_word 61 = .ok (.isub, 1) := by decide +kernel
theorem dX12_word_62 : decode cX12_word 62 = .ok (.bipush 7, 2) := by decide +kernel
theorem dX12_word_64 : decode cX12_word 64 = .ok (.if_icmp .ge 21, 3) := by decide +kernel
theorem dX12_word_67 : decode cX12_word 67 = .ok (.lload_n 1, 1) := by decide +kernel
theorem dX12_word_68 : decode cX12_word 68 = .ok (.bipush 8, 2) := by decide +kernel
theorem dX12_word_70 : decode cX12_word 70 = .ok (.lshl, 1) := by decide +kernel
theorem dX12_word_71 : decode cX12_word 71 = .ok (.aload_n 0, 1) := by decide +kernel
theorem dX12_word_72 : decode cX12_word 72 = .ok (.getfield 98, 3) := by decide +kernel
theorem dX12_word_75 : decode cX12_word 75 = .ok (.aload_n 0, 1) := by decide +kernel
theorem dX12_word_76 : decode cX12_word 76 = .ok (.getfield 197, 3) := by decide +kernel
theorem dX12_word_79 : decode cX12_word 79 = .ok (.baload, 1) := by decide +kernel
theorem dX12_word_80 : decode cX12_word 80 = .ok (.i2l, 1) := by decide +kernel
theorem dX12_word_81 : decode cX12_word 81 = .ok (.lor, 1) := by decide +kernel
theorem dX12_word_82 : decode cX12_word 82 = .ok (.goto 4, 3) := by decide +kernel
theorem dX12_word_85 : decode cX12_word 85 = .ok (.lconst 0, 1) := by decide +kernel
theorem dX12_word_86 : decode cX12_word 86 = .ok (.lstore_n 1, 1) := by decide +kernel
theorem dX12_word_87 : decode cX12_word 87 = .ok (.aload_n 0, 1) := by decide +kernel
theorem dX12_word_88 : decode cX12_word 88 = .ok (.dup, 1) := by decide +kernel
theorem dX12_word_89 : decode cX12_word 89 = .ok (.getfield 197, 3) := by decide +kernel
theorem dX12_word_92 : decode cX12_word 92 = .ok (.iconst 1, 1) := by decide +kernel
theorem dX12_word_93 : decode cX12_word 93 = .ok (.iadd, 1) := by decide +kernel
theorem dX12_word_94 : decode cX12_word 94 = .ok (.putfield 197, 3) := by decide +kernel
theorem dX12_word_97 : decode cX12_word 97 = .ok (.goto (-83), 3) := by decide +kernel
theorem dX12_word_100 : decode cX12_word 100 = .ok (.aload_n 0, 1) := by decide +kernel
theorem dX12_word_101 : decode cX12_word 101 = .ok (.getfield 197, 3) := by decide +kernel
theorem dX12_word_104 : decode cX12_word 104 = .ok (.aload_n 0, 1) := by decide +kernel
theorem dX12_word_105 : decode cX12_word 105 = .ok (.getfield 188, 3) := by decide +kernel
theorem dX12_word_108 : decode cX12_word 108 = .ok (.isub, 1) := by decide +kernel
theorem dX12_word_109 : decode cX12_word 109 = .ok (.bipush 7, 2) := by decide +kernel
theorem dX12_word_111 : decode cX12_word 111 = .ok (.if_icmp .le 7, 3) := by decide +kernel
theorem dX12_word_114 : decode cX12_word 114 = .ok (.lconst 0, 1) := by decide +kernel
theorem dX12_word_115 : decode cX12_word 115 = .ok (.goto 4, 3) := by decide +kernel
theorem dX12_word_118 : decode cX12_word 118 = .ok (.lload_n 1, 1) := by decide +kernel
theorem dX12_word_119 : decode cX12_word 119 = .ok (.lreturn, 1) := by decide +kernel
theorem dX12_takes_0 : decode cX12_takes 0 = .ok (.aload_n 0, 1) := by decide +kernel
theorem dX12_takes_1 : decode cX12_takes 1 = .ok (.invokevirtual 200, 3) := by decide +kernel
theorem dX12_takes_4 : decode cX12_takes 4 = .ok (.lload_n 1, 1) := by decide +kernel
theorem dX12_takes_5 : decode cX12_takes 5 = .ok (.lcmp, 1) := by decide +kernel
theorem dX12_takes_6 : decode cX12_takes 6 = .ok (.ifCond .eq 5, 3) := by decide +kernel
theorem dX12_takes_9 : decode cX12_takes 9 = .ok (.iconst 0, 1) := by decide +kernel
theorem dX12_takes_10 : decode cX12_takes 10 = .ok (.ireturn, 1) := by decide +kernel
theorem dX12_takes_11 : decode cX12_takes 11 = .ok (.aload_n 0, 1) := by decide +kernel
theorem dX12_takes_12 : decode cX12_takes 12 = .ok (.aload_n 0, 1) := by decide +kernel
theorem dX12_takes_13 : decode cX12_takes 13 = .ok (.getfield 197, 3) := by decide +kernel
theorem dX12_takes_16 : decode cX12_takes 16 = .ok (.putfield 188, 3) := by decide +kernel
theorem dX12_takes_19 : decode cX12_takes 19 = .ok (.iconst 1, 1) := by decide +kernel
theorem dX12_takes_20 : decode cX12_takes 20 = .ok (.ireturn, 1) := by decide +kernel
theorem dX12_takesSign_0 : decode cX12_takesSign 0 = .ok (.aload_n 0, 1) := by decide +kernel
theorem dX12_takesSign_1 : decode cX12_takesSign 1 = .ok (.invokevirtual 194, 3) := by decide +kernel
theorem dX12_takesSign_4 : decode cX12_takesSign 4 = .ok (.aload_n 0, 1) := by decide +kernel
theorem dX12_takesSign_5 : decode cX12_takesSign 5 = .ok (.getfield 188, 3) := by decide +kernel
theorem dX12_takesSign_8 : decode cX12_takesSign 8 = .ok (.aload_n 0, 1) := by decide +kernel
theorem dX12_takesSign_9 : decode cX12_takesSign 9 = .ok (.getfield 191, 3) := by decide +kernel
theorem dX12_takesSign_12 : decode cX12_takesSign 12 = .ok (.if_icmp .eq 16, 3) := by decide +kernel
theorem dX12_takesSign_15 : decode cX12_takesSign 15 = .ok (.aload_n 0, 1) := by decide +kernel
theorem dX12_takesSign_16 : decode cX12_takesSign 16 = .ok (.getfield 98, 3) := by decide +kernel
theorem dX12_takesSign_19 : decode cX12_takesSign 19 = .ok (.aload_n 0, 1) := by decide +kernel
theorem dX12_takesSign_20 : decode cX12_takesSign 20 = .ok (.getfield 188, 3) := by decide +kernel
theorem dX12_takesSign_23 : decode cX12_takesSign 23 = .ok (.baload, 1) := by decide +kernel
theorem dX12_takesSign_24 : decode cX12_takesSign 24 = .ok (.iload_n 1, 1) := by decide +kernel
theorem dX12_takesSign_25 : decode cX12_takesSign 25 = .ok (.if_icmp .eq 5, 3) := by decide +kernel
theorem dX12_takesSign_28 : decode cX12_takesSign 28 = .ok (.iconst 0, 1) := by decide +kernel
theorem dX12_takesSign_29 : decode cX12_takesSign 29 = .ok (.ireturn, 1) := by decide +kernel
theorem dX12_takesSign_30 : decode cX12_takesSign 30 = .ok (.aload_n 0, 1) := by decide +kernel
theorem dX12_takesSign_31 : decode cX12_takesSign 31 = .ok (.dup, 1) := by decide +kernel
theorem dX12_takesSign_32 : decode cX12_takesSign 32 = .ok (.getfield 188, 3) := by decide +kernel
theorem dX12_takesSign_35 : decode cX12_takesSign 35 = .ok (.iconst 1, 1) := by decide +kernel
theorem dX12_takesSign_36 : decode cX12_takesSign 36 = .ok (.iadd, 1) := by decide +kernel
theorem dX12_takesSign_37 : decode cX12_takesSign 37 = .ok (.putfield 188, 3) := by decide +kernel
theorem dX12_takesSign_40 : decode cX12_takesSign 40 = .ok (.iconst 1, 1) := by decide +kernel
theorem dX12_takesSign_41 : decode cX12_takesSign 41 = .ok (.ireturn, 1) := by decide +kernel
theorem dX12_takesNumber_0 : decode cX12_takesNumber 0 = .ok (.aload_n 0, 1) := by decide +kernel
theorem dX12_takesNumber_1 : decode cX12_takesNumber 1 = .ok (.invokevirtual 194, 3) := by decide +kernel
theorem dX12_takesNumber_4 : decode cX12_takesNumber 4 = .ok (.aload_n 0, 1) := by decide +kernel
theorem dX12_takesNumber_5 : decode cX12_takesNumber 5 = .ok (.getfield 188, 3) := by decide +kernel
theorem dX12_takesNumber_8 : decode cX12_takesNumber 8 = .ok (.istore_n 3, 1) := by decide +kernel
theorem dX12_takesNumber_9 : decode cX12_takesNumber 9 = .ok (.aload_n 0, 1) := by decide +kernel
theorem dX12_takesNumber_10 : decode cX12_takesNumber 10 = .ok (.iconst 0, 1) := by decide +kernel
theorem dX12_takesNumber_11 : decode cX12_takesNumber 11 = .ok (.putfield 204, 3) := by decide +kernel
theorem dX12_takesNumber_14 : decode cX12_takesNumber 14 = .ok (.iload_n 3, 1) := by decide +kernel
theorem dX12_takesNumber_15 : decode cX12_takesNumber 15 = .ok (.aload_n 0, 1) := by decide +kernel
theorem dX12_takesNumber_16 : decode cX12_takesNumber 16 = .ok (.getfield 191, 3) := by decide +kernel
theorem dX12_takesNumber_19 : decode cX12_takesNumber 19 = .ok (.if_icmp .ge 62, 3) := by decide +kernel
theorem dX12_takesNumber_22 : decode cX12_takesNumber 22 = .ok (.aload_n 0, 1) := by decide +kernel
theorem dX12_takesNumber_23 : decode cX12_takesNumber 23 = .ok (.getfield 98, 3) := by decide +kernel
theorem dX12_takesNumber_26 : decode cX12_takesNumber 26 = .ok (.iload_n 3, 1) := by decide +kernel
theorem dX12_takesNumber_27 : decode cX12_takesNumber 27 = .ok (.baload, 1) := by decide +kernel
theorem dX12_takesNumber_28 : decode cX12_takesNumber 28 = .ok (.bipush 48, 2) := by decide +kernel
theorem dX12_takesNumber_30 : decode cX12_takesNumber 30 = .ok (.if_icmp .lt 51, 3) := by decide +kernel
theorem dX12_takesNumber_33 : decode cX12_takesNumber 33 = .ok (.aload_n 0, 1) := by decide +kernel
theorem dX12_takesNumber_34 : decode cX12_takesNumber 34 = .ok (.getfield 98, 3) := by decide +kernel
theorem dX12_takesNumber_37 : decode cX12_takesNumber 37 = .ok (.iload_n 3, 1) := by decide +kernel
theorem dX12_takesNumber_38 : decode cX12_takesNumber 38 = .ok (.baload, 1) := by decide +kernel
theorem dX12_takesNumber_39 : decode cX12_takesNumber 39 = .ok (.bipush 57, 2) := by decide +kernel
theorem dX12_takesNumber_41 : decode cX12_takesNumber 41 = .ok (.if_icmp .gt 40, 3) := by decide +kernel
theorem dX12_takesNumber_44 : decode cX12_takesNumber 44 = .ok (.iload_n 3, 1) := by decide +kernel
theorem dX12_takesNumber_45 : decode cX12_takesNumber 45 = .ok (.aload_n 0, 1) := by decide +kernel
theorem dX12_takesNumber_46 : decode cX12_takesNumber 46 = .ok (.getfield 188, 3) := by decide +kernel
theorem dX12_takesNumber_49 : decode cX12_takesNumber 49 = .ok (.isub, 1) := by decide +kernel
theorem dX12_takesNumber_50 : decode cX12_takesNumber 50 = .ok (.iconst 4, 1) := by decide +kernel
theorem dX12_takesNumber_51 : decode cX12_takesNumber 51 = .ok (.if_icmp .ge 24, 3) := by decide +kernel
theorem dX12_takesNumber_54 : decode cX12_takesNumber 54 = .ok (.aload_n 0, 1) := by decide +kernel
theorem dX12_takesNumber_55 : decode cX12_takesNumber 55 = .ok (.bipush 10, 2) := by decide +kernel
theorem dX12_takesNumber_57 : decode cX12_takesNumber 57 = .ok (.aload_n 0, 1) := by decide +kernel
theorem dX12_takesNumber_58 : decode cX12_takesNumber 58 = .ok (.getfield 204, 3) := by decide +kernel
theorem dX12_takesNumber_61 : decode cX12_takesNumber 61 = .ok (.imul, 1) := by decide +kernel
theorem dX12_takesNumber_62 : decode cX12_takesNumber 62 = .ok (.aload_n 0, 1) := by decide +kernel
theorem dX12_takesNumber_63 : decode cX12_takesNumber 63 = .ok (.getfield 98, 3) := by decide +kernel
theorem dX12_takesNumber_66 : decode cX12_takesNumber 66 = .ok (.iload_n 3, 1) := by decide +kernel
theorem dX12_takesNumber_67 : decode cX12_takesNumber 67 = .ok (.baload, 1) := by decide +kernel
theorem dX12_takesNumber_68 : decode cX12_takesNumber 68 = .ok (.iadd, 1) := by decide +kernel
theorem dX12_takesNumber_69 : decode cX12_takesNumber 69 = .ok (.bipush 48, 2) := by decide +kernel
theorem dX12_takesNumber_71 : decode cX12_takesNumber 71 = .ok (.isub, 1) := by decide +kernel
theorem dX12_takesNumber_72 : decode cX12_takesNumber 72 = .ok (.putfield 204, 3) := by decide +kernel
theorem dX12_takesNumber_75 : decode cX12_takesNumber 75 = .ok (.iinc 3 1, 3) := by decide +kernel
theorem dX12_takesNumber_78 : decode cX12_takesNumber 78 = .ok (.goto (-64), 3) := by decide +kernel
theorem dX12_takesNumber_81 : decode cX12_takesNumber 81 = .ok (.iload_n 3, 1) := by decide +kernel
theorem dX12_takesNumber_82 : decode cX12_takesNumber 82 = .ok (.aload_n 0, 1) := by decide +kernel
theorem dX12_takesNumber_83 : decode cX12_takesNumber 83 = .ok (.getfield 188, 3) := by decide +kernel
theorem dX12_takesNumber_86 : decode cX12_takesNumber 86 = .ok (.if_icmp .eq 25, 3) := by decide +kernel
theorem dX12_takesNumber_89 : decode cX12_takesNumber 89 = .ok (.iload_n 3, 1) := by decide +kernel
theorem dX12_takesNumber_90 : decode cX12_takesNumber 90 = .ok (.aload_n 0, 1) := by decide +kernel
theorem dX12_takesNumber_91 : decode cX12_takesNumber 91 = .ok (.getfield 188, 3) := by decide +kernel
theorem dX12_takesNumber_94 : decode cX12_takesNumber 94 = .ok (.isub, 1) := by decide +kernel
theorem dX12_takesNumber_95 : decode cX12_takesNumber 95 = .ok (.iconst 4, 1) := by decide +kernel
theorem dX12_takesNumber_96 : decode cX12_takesNumber 96 = .ok (.if_icmp .gt 15, 3) := by decide +kernel
theorem dX12_takesNumber_99 : decode cX12_takesNumber 99 = .ok (.aload_n 0, 1) := by decide +kernel
theorem dX12_takesNumber_100 : decode cX12_takesNumber 100 = .ok (.getfield 204, 3) := by decide +kernel
theorem dX12_takesNumber_103 : decode cX12_takesNumber 103 = .ok (.iload_n 1, 1) := by decide +kernel
theorem dX12_takesNumber_104 : decode cX12_takesNumber 104 = .ok (.iload_n 2, 1) := by decide +kernel
theorem dX12_takesNumber_105 : decode cX12_takesNumber 105 = .ok (.invokestatic 157, 3) := by decide +kernel
theorem dX12_takesNumber_108 : decode cX12_takesNumber 108 = .ok (.ifCond .ne 5, 3) := by decide +kernel
theorem dX12_takesNumber_111 : decode cX12_takesNumber 111 = .ok (.iconst 0, 1) := by decide +kernel
theorem dX12_takesNumber_112 : decode cX12_takesNumber 112 = .ok (.ireturn, 1) := by decide +kernel
theorem dX12_takesNumber_113 : decode cX12_takesNumber 113 = .ok (.aload_n 0, 1) := by decide +kernel
theorem dX12_takesNumber_114 : decode cX12_takesNumber 114 = .ok (.iload_n 3, 1) := by decide +kernel
theorem dX12_takesNumber_115 : decode cX12_takesNumber 115 = .ok (.putfield 188, 3) := by decide +kernel
theorem dX12_takesNumber_118 : decode cX12_takesNumber 118 = .ok (.iconst 1, 1) := by decide +kernel
theorem dX12_takesNumber_119 : decode cX12_takesNumber 119 = .ok (.ireturn, 1) := by decide +kernel
theorem dX12_mean_0 : decode cX12_mean 0 = .ok (.lload_n 0, 1) := by decide +kernel
theorem dX12_mean_1 : decode cX12_mean 1 = .ok (.ldc2_w 207, 3) := by decide +kernel
theorem dX12_mean_4 : decode cX12_mean 4 = .ok (.lcmp, 1) := by decide +kernel
theorem dX12_mean_5 : decode cX12_mean 5 = .ok (.ifCond .ne 7, 3) := by decide +kernel
theorem dX12_mean_8 : decode cX12_mean 8 = .ok (.iconst 0, 1) := by decide +kernel
theorem dX12_mean_9 : decode cX12_mean 9 = .ok (.goto 40, 3) := by decide +kernel
theorem dX12_mean_12 : decode cX12_mean 12 = .ok (.lload_n 0, 1) := by decide +kernel
theorem dX12_mean_13 : decode cX12_mean 13 = .ok (.ldc2_w 209, 3) := by decide +kernel
theorem dX12_mean_16 : decode cX12_mean 16 = .ok (.lcmp, 1) := by decide +kernel
theorem dX12_mean_17 : decode cX12_mean 17 = .ok (.ifCond .ne 7, 3) := by decide +kernel
theorem dX12_mean_20 : decode cX12_mean 20 = .ok (.iconst 1, 1) := by decide +kernel
theorem dX12_mean_21 : decode cX12_mean 21 = .ok (.goto 28, 3) := by decide +kernel
theorem dX12_mean_24 : decode cX12_mean 24 = .ok (.lload_n 0, 1) := by decide +kernel
theorem dX12_mean_25 : decode cX12_mean 25 = .ok (.ldc2_w 211, 3) := by decide +kernel
theorem dX12_mean_28 : decode cX12_mean 28 = .ok (.lcmp, 1) := by decide +kernel
theorem dX12_mean_29 : decode cX12_mean 29 = .ok (.ifCond .ne 7, 3) := by decide +kernel
theorem dX12_mean_32 : decode cX12_mean 32 = .ok (.iconst 2, 1) := by decide +kernel
theorem dX12_mean_33 : decode cX12_mean 33 = .ok (.goto 16, 3) := by decide +kernel
theorem dX12_mean_36 : decode cX12_mean 36 = .ok (.lload_n 0, 1) := by decide +kernel
theorem dX12_mean_37 : decode cX12_mean 37 = .ok (.ldc2_w 213, 3) := by decide +kernel
theorem dX12_mean_40 : decode cX12_mean 40 = .ok (.lcmp, 1) := by decide +kernel
theorem dX12_mean_41 : decode cX12_mean 41 = .ok (.ifCond .ne 7, 3) := by decide +kernel
theorem dX12_mean_44 : decode cX12_mean 44 = .ok (.iconst 3, 1) := by decide +kernel
theorem dX12_mean_45 : decode cX12_mean 45 = .ok (.goto 4, 3) := by decide +kernel
theorem dX12_mean_48 : decode cX12_mean 48 = .ok (.iconst (-1), 1) := by decide +kernel
theorem dX12_mean_49 : decode cX12_mean 49 = .ok (.ireturn, 1) := by decide +kernel
theorem dX12_askedBy_0 : decode cX12_askedBy 0 = .ok (.lload_n 0, 1) := by decide +kernel
theorem dX12_askedBy_1 : decode cX12_askedBy 1 = .ok (.invokestatic 215, 3) := by decide +kernel
theorem dX12_askedBy_4 : decode cX12_askedBy 4 = .ok (.istore_n 2, 1) := by decide +kernel
theorem dX12_askedBy_5 : decode cX12_askedBy 5 = .ok (.iload_n 2, 1) := by decide +kernel
theorem dX12_askedBy_6 : decode cX12_askedBy 6 = .ok (.iconst (-1), 1) := by decide +kernel
theorem dX12_askedBy_7 : decode cX12_askedBy 7 = .ok (.if_icmp .eq 8, 3) := by decide +kernel
theorem dX12_askedBy_10 : decode cX12_askedBy 10 = .ok (.bipush 8, 2) := by decide +kernel
theorem dX12_askedBy_12 : decode cX12_askedBy 12 = .ok (.iload_n 2, 1) := by decide +kernel
theorem dX12_askedBy_13 : decode cX12_askedBy 13 = .ok (.iadd, 1) := by decide +kernel
theorem dX12_askedBy_14 : decode cX12_askedBy 14 = .ok (.ireturn, 1) := by decide +kernel
theorem dX12_askedBy_15 : decode cX12_askedBy 15 = .ok (.lload_n 0, 1) := by decide +kernel
theorem dX12_askedBy_16 : decode cX12_askedBy 16 = .ok (.ldc2_w 219, 3) := by decide +kernel
theorem dX12_askedBy_19 : decode cX12_askedBy 19 = .ok (.lcmp, 1) := by decide +kernel
theorem dX12_askedBy_20 : decode cX12_askedBy 20 = .ok (.ifCond .ne 7, 3) := by decide +kernel
theorem dX12_askedBy_23 : decode cX12_askedBy 23 = .ok (.iconst 0, 1) := by decide +kernel
theorem dX12_askedBy_24 : decode cX12_askedBy 24 = .ok (.goto 90, 3) := by decide +kernel
theorem dX12_askedBy_27 : decode cX12_askedBy 27 = .ok (.lload_n 0, 1) := by decide +kernel
theorem dX12_askedBy_28 : decode cX12_askedBy 28 = .ok (.ldc2_w 221, 3) := by decide +kernel
theorem dX12_askedBy_31 : decode cX12_askedBy 31 = .ok (.lcmp, 1) := by decide +kernel
theorem dX12_askedBy_32 : decode cX12_askedBy 32 = .ok (.ifCond .ne 7, 3) := by decide +kernel
theorem dX12_askedBy_35 : decode cX12_askedBy 35 = .ok (.iconst 1, 1) := by decide +kernel
theorem dX12_askedBy_36 : decode cX12_askedBy 36 = .ok (.goto 78, 3) := by decide +kernel
theorem dX12_askedBy_39 : decode cX12_askedBy 39 = .ok (.lload_n 0, 1) := by decide +kernel
theorem dX12_askedBy_40 : decode cX12_askedBy 40 = .ok (.ldc2_w 223, 3) := by decide +kernel
theorem dX12_askedBy_43 : decode cX12_askedBy 43 = .ok (.lcmp, 1) := by decide +kernel
theorem dX12_askedBy_44 : decode cX12_askedBy 44 = .ok (.ifCond .ne 7, 3) := by decide +kernel
theorem dX12_askedBy_47 : decode cX12_askedBy 47 = .ok (.iconst 2, 1) := by decide +kernel
theorem dX12_askedBy_48 : decode cX12_askedBy 48 = .ok (.goto 66, 3) := by decide +kernel
theorem dX12_askedBy_51 : decode cX12_askedBy 51 = .ok (.lload_n 0, 1) := by decide +kernel
theorem dX12_askedBy_52 : decode cX12_askedBy 52 = .ok (.ldc2_w 225, 3) := by decide +kernel
theorem dX12_askedBy_55 : decode cX12_askedBy 55 = .ok (.lcmp, 1) := by decide +kernel
theorem dX12_askedBy_56 : decode cX12_askedBy 56 = .ok (.ifCond .ne 7, 3) := by decide +kernel
theorem dX12_askedBy_59 : decode cX12_askedBy 59 = .ok (.iconst 3, 1) := by decide +kernel
theorem dX12_askedBy_60 : decode cX12_askedBy 60 = .ok (.goto 54, 3) := by decide +kernel
theorem dX12_askedBy_63 : decode cX12_askedBy 63 = .ok (.lload_n 0, 1) := by decide +kernel
theorem dX12_askedBy_64 : decode cX12_askedBy 64 = .ok (.ldc2_w 227, 3) := by decide +kernel
theorem dX12_askedBy_67 : decode cX12_askedBy 67 = .ok (.lcmp, 1) := by decide +kernel
theorem dX12_askedBy_68 : decode cX12_askedBy 68 = .ok (.ifCond .ne 7, 3) := by decide +kernel
theorem dX12_askedBy_71 : decode cX12_askedBy 71 = .ok (.iconst 4, 1) := by decide +kernel
theorem dX12_askedBy_72 : decode cX12_askedBy 72 = .ok (.goto 42, 3) := by decide +kernel
theorem dX12_askedBy_75 : decode cX12_askedBy 75 = .ok (.lload_n 0, 1) := by decide +kernel
theorem dX12_askedBy_76 : decode cX12_askedBy 76 = .ok (.ldc2_w 229, 3) := by decide +kernel
theorem dX12_askedBy_79 : decode cX12_askedBy 79 = .ok (.lcmp, 1) := by decide +kernel
theorem dX12_askedBy_80 : decode cX12_askedBy 80 = .ok (.ifCond .ne 7, 3) := by decide +kernel
theorem dX12_askedBy_83 : decode cX12_askedBy 83 = .ok (.iconst 5, 1) := by decide +kernel
theorem dX12_askedBy_84 : decode cX12_askedBy 84 = .ok (.goto 30, 3) := by decide +kernel
theorem dX12_askedBy_87 : decode cX12_askedBy 87 = .ok (.lload_n 0, 1) := by decide +kernel
theorem dX12_askedBy_88 : decode cX12_askedBy 88 = .ok (.ldc2_w 231, 3) := by decide +kernel
theorem dX12_askedBy_91 : decode cX12_askedBy 91 = .ok (.lcmp, 1) := by decide +kernel
theorem dX12_askedBy_92 : decode cX12_askedBy 92 = .ok (.ifCond .ne 8, 3) := by decide +kernel
theorem dX12_askedBy_95 : decode cX12_askedBy 95 = .ok (.bipush 6, 2) := by decide +kernel
theorem dX12_askedBy_97 : decode cX12_askedBy 97 = .ok (.goto 17, 3) := by decide +kernel
theorem dX12_askedBy_100 : decode cX12_askedBy 100 = .ok (.lload_n 0, 1) := by decide +kernel
theorem dX12_askedBy_101 : decode cX12_askedBy 101 = .ok (.ldc2_w 233, 3) := by decide +kernel
theorem dX12_askedBy_104 : decode cX12_askedBy 104 = .ok (.lcmp, 1) := by decide +kernel
theorem dX12_askedBy_105 : decode cX12_askedBy 105 = .ok (.ifCond .ne 8, 3) := by decide +kernel
theorem dX12_askedBy_108 : decode cX12_askedBy 108 = .ok (.bipush 7, 2) := by decide +kernel
theorem dX12_askedBy_110 : decode cX12_askedBy 110 = .ok (.goto 4, 3) := by decide +kernel
theorem dX12_askedBy_113 : decode cX12_askedBy 113 = .ok (.iconst (-1), 1) := by decide +kernel
theorem dX12_askedBy_114 : decode cX12_askedBy 114 = .ok (.ireturn, 1) := by decide +kernel
theorem dX12_puts_0 : decode cX12_puts 0 = .ok (.aload_n 0, 1) := by decide +kernel
theorem dX12_puts_1 : decode cX12_puts 1 = .ok (.getfield 81, 3) := by decide +kernel
theorem dX12_puts_4 : decode cX12_puts 4 = .ok (.aload_n 0, 1) := by decide +kernel
theorem dX12_puts_5 : decode cX12_puts 5 = .ok (.getfield 235, 3) := by decide +kernel
theorem dX12_puts_8 : decode cX12_puts 8 = .ok (.iload_n 1, 1) := by decide +kernel
theorem dX12_puts_9 : decode cX12_puts 9 = .ok (.iastore, 1) := by decide +kernel
theorem dX12_puts_10 : decode cX12_puts 10 = .ok (.aload_n 0, 1) := by decide +kernel
theorem dX12_puts_11 : decode cX12_puts 11 = .ok (.getfield 84, 3) := by decide +kernel
theorem dX12_puts_14 : decode cX12_puts 14 = .ok (.aload_n 0, 1) := by decide +kernel
theorem dX12_puts_15 : decode cX12_puts 15 = .ok (.getfield 235, 3) := by decide +kernel
theorem dX12_puts_18 : decode cX12_puts 18 = .ok (.iload_n 2, 1) := by decide +kernel
theorem dX12_puts_19 : decode cX12_puts 19 = .ok (.iastore, 1) := by decide +kernel
theorem dX12_puts_20 : decode cX12_puts 20 = .ok (.aload_n 0, 1) := by decide +kernel
theorem dX12_puts_21 : decode cX12_puts 21 = .ok (.getfield 87, 3) := by decide +kernel
theorem dX12_puts_24 : decode cX12_puts 24 = .ok (.aload_n 0, 1) := by decide +kernel
theorem dX12_puts_25 : decode cX12_puts 25 = .ok (.getfield 235, 3) := by decide +kernel
theorem dX12_puts_28 : decode cX12_puts 28 = .ok (.iload_n 3, 1) := by decide +kernel
theorem dX12_puts_29 : decode cX12_puts 29 = .ok (.iastore, 1) := by decide +kernel
theorem dX12_puts_30 : decode cX12_puts 30 = .ok (.aload_n 0, 1) := by decide +kernel
theorem dX12_puts_31 : decode cX12_puts 31 = .ok (.dup, 1) := by decide +kernel
theorem dX12_puts_32 : decode cX12_puts 32 = .ok (.getfield 235, 3) := by decide +kernel
theorem dX12_puts_35 : decode cX12_puts 35 = .ok (.iconst 1, 1) := by decide +kernel
theorem dX12_puts_36 : decode cX12_puts 36 = .ok (.iadd, 1) := by decide +kernel
theorem dX12_puts_37 : decode cX12_puts 37 = .ok (.putfield 235, 3) := by decide +kernel
theorem dX12_puts_40 : decode cX12_puts 40 = .ok (.return_, 1) := by decide +kernel
theorem dX12_opens_0 : decode cX12_opens 0 = .ok (.aload_n 0, 1) := by decide +kernel
theorem dX12_opens_1 : decode cX12_opens 1 = .ok (.getfield 238, 3) := by decide +kernel
theorem dX12_opens_4 : decode cX12_opens 4 = .ok (.bipush 8, 2) := by decide +kernel
theorem dX12_opens_6 : decode cX12_opens 6 = .ok (.if_icmp .ne 5, 3) := by decide +kernel
theorem dX12_opens_9 : decode cX12_opens 9 = .ok (.iconst 0, 1) := by decide +kernel
theorem dX12_opens_10 : decode cX12_opens 10 = .ok (.ireturn, 1) := by decide +kernel
theorem dX12_opens_11 : decode cX12_opens 11 = .ok (.aload_n 0, 1) := by decide +kernel
theorem dX12_opens_12 : decode cX12_opens 12 = .ok (.dup, 1) := by decide +kernel
theorem dX12_opens_13 : decode cX12_opens 13 = .ok (.getfield 238, 3) := by decide +kernel
theorem dX12_opens_16 : decode cX12_opens 16 = .ok (.iconst 1, 1) := by decide +kernel
theorem dX12_opens_17 : decode cX12_opens 17 = .ok (.iadd, 1) := by decide +kernel
theorem dX12_opens_18 : decode cX12_opens 18 = .ok (.putfield 238, 3) := by decide +kernel
theorem dX12_opens_21 : decode cX12_opens 21 = .ok (.iconst 1, 1) := by decide +kernel
theorem dX12_opens_22 : decode cX12_opens 22 = .ok (.ireturn, 1) := by decide +kernel
theorem dX12_any_0 : decode cX12_any 0 = .ok (.aload_n 0, 1) := by decide +kernel
theorem dX12_any_1 : decode cX12_any 1 = .ok (.invokevirtual 241, 3) := by decide +kernel
theorem dX12_any_4 : decode cX12_any 4 = .ok (.ifCond .ne 5, 3) := by decide +kernel
theorem dX12_any_7 : decode cX12_any 7 = .ok (.iconst 0, 1) := by decide +kernel
theorem dX12_any_8 : decode cX12_any 8 = .ok (.ireturn, 1) := by decide +kernel
theorem dX12_any_9 : decode cX12_any 9 = .ok (.aload_n 0, 1) := by decide +kernel
theorem dX12_any_10 : decode cX12_any 10 = .ok (.ldc2_w 245, 3) := by decide +kernel
theorem dX12_any_13 : decode cX12_any 13 = .ok (.invokevirtual 247, 3) := by decide +kernel
theorem dX12_any_16 : decode cX12_any 16 = .ok (.ifCond .eq 22, 3) := by decide +kernel
theorem dX12_any_19 : decode cX12_any 19 = .ok (.aload_n 0, 1) := by decide +kernel
theorem dX12_any_20 : decode cX12_any 20 = .ok (.invokevirtual 241, 3) := by decide +kernel
theorem dX12_any_23 : decode cX12_any 23 = .ok (.ifCond .ne 5, 3) := by decide +kernel
theorem dX12_any_26 : decode cX12_any 26 = .ok (.iconst 0, 1) := by decide +kernel
theorem dX12_any_27 : decode cX12_any 27 = .ok (.ireturn, 1) := by decide +kernel
theorem dX12_any_28 : decode cX12_any 28 = .ok (.aload_n 0, 1) := by decide +kernel
theorem dX12_any_29 : decode cX12_any 29 = .ok (.iconst 3, 1) := by decide +kernel
theorem dX12_any_30 : decode cX12_any 30 = .ok (.iconst 0, 1) := by decide +kernel
theorem dX12_any_31 : decode cX12_any 31 = .ok (.iconst 0, 1) := by decide +kernel
theorem dX12_any_32 : decode cX12_any 32 = .ok (.invokevirtual 251, 3) := by decide +kernel
theorem dX12_any_35 : decode cX12_any 35 = .ok (.goto (-26), 3) := by decide +kernel
theorem dX12_any_38 : decode cX12_any 38 = .ok (.iconst 1, 1) := by decide +kernel
theorem dX12_any_39 : decode cX12_any 39 = .ok (.ireturn, 1) := by decide +kernel
theorem dX12_all_0 : decode cX12_all 0 = .ok (.aload_n 0, 1) := by decide +kernel
theorem dX12_all_1 : decode cX12_all 1 = .ok (.invokevirtual 255, 3) := by decide +kernel
theorem dX12_all_4 : decode cX12_all 4 = .ok (.ifCond .ne 5, 3) := by decide +kernel
theorem dX12_all_7 : decode cX12_all 7 = .ok (.iconst 0, 1) := by decide +kernel
theorem dX12_all_8 : decode cX12_all 8 = .ok (.ireturn, 1) := by decide +kernel
theorem dX12_all_9 : decode cX12_all 9 = .ok (.aload_n 0, 1) := by decide +kernel
theorem dX12_all_10 : decode cX12_all 10 = .ok (.ldc2_w 258, 3) := by decide +kernel
theorem dX12_all_13 : decode cX12_all 13 = .ok (.invokevirtual 247, 3) := by decide +kernel
theorem dX12_all_16 : decode cX12_all 16 = .ok (.ifCond .eq 22, 3) := by decide +kernel
theorem dX12_all_19 : decode cX12_all 19 = .ok (.aload_n 0, 1) := by decide +kernel
theorem dX12_all_20 : decode cX12_all 20 = .ok (.invokevirtual 255, 3) := by decide +kernel
theorem dX12_all_23 : decode cX12_all 23 = .ok (.ifCond .ne 5, 3) := by decide +kernel
theorem dX12_all_26 : decode cX12_all 26 = .ok (.iconst 0, 1) := by decide +kernel
theorem dX12_all_27 : decode cX12_all 27 = .ok (.ireturn, 1) := by decide +kernel
theorem dX12_all_28 : decode cX12_all 28 = .ok (.aload_n 0, 1) := by decide +kernel
theorem dX12_all_29 : decode cX12_all 29 = .ok (.iconst 4, 1) := by decide +kernel
theorem dX12_all_30 : decode cX12_all 30 = .ok (.iconst 0, 1) := by decide +kernel
theorem dX12_all_31 : decode cX12_all 31 = .ok (.iconst 0, 1) := by decide +kernel
theorem dX12_all_32 : decode cX12_all 32 = .ok (.invokevirtual 251, 3) := by decide +kernel
theorem dX12_all_35 : decode cX12_all 35 = .ok (.goto (-26), 3) := by decide +kernel
theorem dX12_all_38 : decode cX12_all 38 = .ok (.iconst 1, 1) := by decide +kernel
theorem dX12_all_39 : decode cX12_all 39 = .ok (.ireturn, 1) := by decide +kernel
theorem dX12_single_0 : decode cX12_single 0 = .ok (.aload_n 0, 1) := by decide +kernel
theorem dX12_single_1 : decode cX12_single 1 = .ok (.invokevirtual 200, 3) := by decide +kernel
theorem dX12_single_4 : decode cX12_single 4 = .ok (.ldc2_w 260, 3) := by decide +kernel
theorem dX12_single_7 : decode cX12_single 7 = .ok (.lcmp, 1) := by decide +kernel
theorem dX12_single_8 : decode cX12_single 8 = .ok (.ifCond .ne 48, 3) := by decide +kernel
theorem dX12_single_11 : decode cX12_single 11 = .ok (.aload_n 0, 1) := by decide +kernel
theorem dX12_single_12 : decode cX12_single 12 = .ok (.invokevirtual 262, 3) := by decide +kernel
theorem dX12_single_15 : decode cX12_single 15 = .ok (.ifCond .ne 5, 3) := by decide +kernel
theorem dX12_single_18 : decode cX12_single 18 = .ok (.iconst 0, 1) := by decide +kernel
theorem dX12_single_19 : decode cX12_single 19 = .ok (.ireturn, 1) := by decide +kernel
theorem dX12_single_20 : decode cX12_single 20 = .ok (.aload_n 0, 1) := by decide +kernel
theorem dX12_single_21 : decode cX12_single 21 = .ok (.aload_n 0, 1) := by decide +kernel
theorem dX12_single_22 : decode cX12_single 22 = .ok (.getfield 197, 3) := by decide +kernel
theorem dX12_single_25 : decode cX12_single 25 = .ok (.putfield 188, 3) := by decide +kernel
theorem dX12_single_28 : decode cX12_single 28 = .ok (.aload_n 0, 1) := by decide +kernel
theorem dX12_single_29 : decode cX12_single 29 = .ok (.invokevirtual 255, 3) := by decide +kernel
theorem dX12_single_32 : decode cX12_single 32 = .ok (.ifCond .ne 5, 3) := by decide +kernel
theorem dX12_single_35 : decode cX12_single 35 = .ok (.iconst 0, 1) := by decide +kernel
theorem dX12_single_36 : decode cX12_single 36 = .ok (.ireturn, 1) := by decide +kernel
theorem dX12_single_37 : decode cX12_single 37 = .ok (.aload_n 0, 1) := by decide +kernel
theorem dX12_single_38 : decode cX12_single 38 = .ok (.dup, 1) := by decide +kernel
theorem dX12_single_39 : decode cX12_single 39 = .ok (.getfield 238, 3) := by decide +kernel
theorem dX12_single_42 : decode cX12_single 42 = .ok (.iconst 1, 1) := by decide +kernel
theorem dX12_single_43 : decode cX12_single 43 = .ok (.isub, 1) := by decide +kernel
theorem dX12_single_44 : decode cX12_single 44 = .ok (.putfield 238, 3) := by decide +kernel
theorem dX12_single_47 : decode cX12_single 47 = .ok (.aload_n 0, 1) := by decide +kernel
theorem dX12_single_48 : decode cX12_single 48 = .ok (.iconst 5, 1) := by decide +kernel
theorem dX12_single_49 : decode cX12_single 49 = .ok (.iconst 0, 1) := by decide +kernel
theorem dX12_single_50 : decode cX12_single 50 = .ok (.iconst 0, 1) := by decide +kernel
theorem dX12_single_51 : decode cX12_single 51 = .ok (.invokevirtual 251, 3) := by decide +kernel
theorem dX12_single_54 : decode cX12_single 54 = .ok (.iconst 1, 1) := by decide +kernel
theorem dX12_single_55 : decode cX12_single 55 = .ok (.ireturn, 1) := by decide +kernel
theorem dX12_single_56 : decode cX12_single 56 = .ok (.aload_n 0, 1) := by decide +kernel
theorem dX12_single_57 : decode cX12_single 57 = .ok (.getfield 188, 3) := by decide +kernel
theorem dX12_single_60 : decode cX12_single 60 = .ok (.aload_n 0, 1) := by decide +kernel
theorem dX12_single_61 : decode cX12_single 61 = .ok (.getfield 191, 3) := by decide +kernel
theorem dX12_single_64 : decode cX12_single 64 = .ok (.if_icmp .ge 66, 3) := by decide +kernel
theorem dX12_single_67 : decode cX12_single 67 = .ok (.aload_n 0, 1) := by decide +kernel
theorem dX12_single_68 : decode cX12_single 68 = .ok (.getfield 98, 3) := by decide +kernel
theorem dX12_single_71 : decode cX12_single 71 = .ok (.aload_n 0, 1) := by decide +kernel
theorem dX12_single_72 : decode cX12_single 72 = .ok (.getfield 188, 3) := by decide +kernel
theorem dX12_single_75 : decode cX12_single 75 = .ok (.baload, 1) := by decide +kernel
theorem dX12_single_76 : decode cX12_single 76 = .ok (.bipush 40, 2) := by decide +kernel
theorem dX12_single_78 : decode cX12_single 78 = .ok (.if_icmp .ne 52, 3) := by decide +kernel
theorem dX12_single_81 : decode cX12_single 81 = .ok (.aload_n 0, 1) := by decide +kernel
theorem dX12_single_82 : decode cX12_single 82 = .ok (.invokevirtual 262, 3) := by decide +kernel
theorem dX12_single_85 : decode cX12_single 85 = .ok (.ifCond .ne 5, 3) := by decide +kernel
theorem dX12_single_88 : decode cX12_single 88 = .ok (.iconst 0, 1) := by decide +kernel
theorem dX12_single_89 : decode cX12_single 89 = .ok (.ireturn, 1) := by decide +kernel
theorem dX12_single_90 : decode cX12_single 90 = .ok (.aload_n 0, 1) := by decide +kernel
theorem dX12_single_91 : decode cX12_single 91 = .ok (.dup, 1) := by decide +kernel
theorem dX12_single_92 : decode cX12_single 92 = .ok (.getfield 188, 3) := by decide +kernel
theorem dX12_single_95 : decode cX12_single 95 = .ok (.iconst 1, 1) := by decide +kernel
theorem dX12_single_96 : decode cX12_single 96 = .ok (.iadd, 1) := by decide +kernel
theorem dX12_single_97 : decode cX12_single 97 = .ok (.putfield 188, 3) := by decide +kernel
theorem dX12_single_100 : decode cX12_single 100 = .ok (.aload_n 0, 1) := by decide +kernel
theorem dX12_single_101 : decode cX12_single 101 = .ok (.invokevirtual 265, 3) := by decide +kernel
theorem dX12_single_104 : decode cX12_single 104 = .ok (.ifCond .eq 12, 3) := by decide +kernel
theorem dX12_single_107 : decode cX12_single 107 = .ok (.aload_n 0, 1) := by decide +kernel
theorem dX12_single_108 : decode cX12_single 108 = .ok (.bipush 41, 2) := by decide +kernel
theorem dX12_single_110 : decode cX12_single 110 = .ok (.invokevirtual 268, 3) := by decide +kernel
theorem dX12_single_113 : decode cX12_single 113 = .ok (.ifCond .ne 5, 3) := by decide +kernel
theorem dX12_single_116 : decode cX12_single 116 = .ok (.iconst 0, 1) := by decide +kernel
theorem dX12_single_117 : decode cX12_single 117 = .ok (.ireturn, 1) := by decide +kernel
theorem dX12_single_118 : decode cX12_single 118 = .ok (.aload_n 0, 1) := by decide +kernel
theorem dX12_single_119 : decode cX12_single 119 = .ok (.dup, 1) := by decide +kernel
theorem dX12_single_120 : decode cX12_single 120 = .ok (.getfield 238, 3) := by decide +kernel
theorem dX12_single_123 : decode cX12_single 123 = .ok (.iconst 1, 1) := by decide +kernel
theorem dX12_single_124 : decode cX12_single 124 = .ok (.isub, 1) := by decide +kernel
theorem dX12_single_125 : decode cX12_single 125 = .ok (.putfield 238, 3) := by decide +kernel
theorem dX12_single_128 : decode cX12_single 128 = .ok (.iconst 1, 1) := by decide +kernel
theorem dX12_single_129 : decode cX12_single 129 = .ok (.ireturn, 1) := by decide +kernel
theorem dX12_single_130 : decode cX12_single 130 = .ok (.aload_n 0, 1) := by decide +kernel
theorem dX12_single_131 : decode cX12_single 131 = .ok (.invokevirtual 200, 3) := by decide +kernel
theorem dX12_single_134 : decode cX12_single 134 = .ok (.invokestatic 271, 3) := by decide +kernel
theorem dX12_single_137 : decode cX12_single 137 = .ok (.istore_n 1, 1) := by decide +kernel
theorem dX12_single_138 : decode cX12_single 138 = .ok (.iload_n 1, 1) := by decide +kernel
theorem dX12_single_139 : decode cX12_single 139 = .ok (.iconst (-1), 1) := by decide +kernel
theorem dX12_single_140 : decode cX12_single 140 = .ok (.if_icmp .ne 5, 3) := by decide +kernel
theorem dX12_single_143 : decode cX12_single 143 = .ok (.iconst 0, 1) := by decide +kernel
theorem dX12_single_144 : decode cX12_single 144 = .ok (.ireturn, 1) := by decide +kernel
theorem dX12_single_145 : decode cX12_single 145 = .ok (.aload_n 0, 1) := by decide +kernel
theorem dX12_single_146 : decode cX12_single 146 = .ok (.aload_n 0, 1) := by decide +kernel
theorem dX12_single_147 : decode cX12_single 147 = .ok (.getfield 197, 3) := by decide +kernel
theorem dX12_single_150 : decode cX12_single 150 = .ok (.putfield 188, 3) := by decide +kernel
theorem dX12_single_153 : decode cX12_single 153 = .ok (.aload_n 0, 1) := by decide +kernel
theorem dX12_single_154 : decode cX12_single 154 = .ok (.bipush 60, 2) := by decide +kernel
theorem dX12_single_156 : decode cX12_single 156 = .ok (.invokevirtual 268, 3) := by decide +kernel
theorem dX12_single_159 : decode cX12_single 159 = .ok (.ifCond .eq 7, 3) := by decide +kernel
theorem dX12_single_162 : decode cX12_single 162 = .ok (.iconst 0, 1) := by decide +kernel
theorem dX12_single_163 : decode cX12_single 163 = .ok (.goto 30, 3) := by decide +kernel
theorem dX12_single_166 : decode cX12_single 166 = .ok (.aload_n 0, 1) := by decide +kernel
theorem dX12_single_167 : decode cX12_single 167 = .ok (.bipush 62, 2) := by decide +kernel
theorem dX12_single_169 : decode cX12_single 169 = .ok (.invokevirtual 268, 3) := by decide +kernel
theorem dX12_single_172 : decode cX12_single 172 = .ok (.ifCond .eq 7, 3) := by decide +kernel
theorem dX12_single_175 : decode cX12_single 175 = .ok (.iconst 1, 1) := by decide +kernel
theorem dX12_single_176 : decode cX12_single 176 = .ok (.goto 17, 3) := by decide +kernel
theorem dX12_single_179 : decode cX12_single 179 = .ok (.aload_n 0, 1) := by decide +kernel
theorem dX12_single_180 : decode cX12_single 180 = .ok (.bipush 61, 2) := by decide +kernel
theorem dX12_single_182 : decode cX12_single 182 = .ok (.invokevirtual 268, 3) := by decide +kernel
theorem dX12_single_185 : decode cX12_single 185 = .ok (.ifCond .eq 7, 3) := by decide +kernel
theorem dX12_single_188 : decode cX12_single 188 = .ok (.iconst 2, 1) := by decide +kernel
theorem dX12_single_189 : decode cX12_single 189 = .ok (.goto 4, 3) := by decide +kernel
theorem dX12_single_192 : decode cX12_single 192 = .ok (.iconst (-1), 1) := by decide +kernel
theorem dX12_single_193 : decode cX12_single 193 = .ok (.istore_n 2, 1) := by decide +kernel
theorem dX12_single_194 : decode cX12_single 194 = .ok (.iload_n 2, 1) := by decide +kernel
theorem dX12_single_195 : decode cX12_single 195 = .ok (.iconst (-1), 1) := by decide +kernel
theorem dX12_single_196 : decode cX12_single 196 = .ok (.if_icmp .eq 14, 3) := by decide +kernel
theorem dX12_single_199 : decode cX12_single 199 = .ok (.aload_n 0, 1) := by decide +kernel
theorem dX12_single_200 : decode cX12_single 200 = .ok (.iconst 0, 1) := by decide +kernel
theorem dX12_single_201 : decode cX12_single 201 = .ok (.sipush 9999, 3) := by decide +kernel
theorem dX12_single_204 : decode cX12_single 204 = .ok (.invokevirtual 274, 3) := by decide +kernel
theorem dX12_single_207 : decode cX12_single 207 = .ok (.ifCond .ne 5, 3) := by decide +kernel
theorem dX12_single_210 : decode cX12_single 210 = .ok (.iconst 0, 1) := by decide +kernel
theorem dX12_single_211 : decode cX12_single 211 = .ok (.ireturn, 1) := by decide +kernel
theorem dX12_single_212 : decode cX12_single 212 = .ok (.aload_n 0, 1) := by decide +kernel
theorem dX12_single_213 : decode cX12_single 213 = .ok (.iload_n 2, 1) := by decide +kernel
theorem dX12_single_214 : decode cX12_single 214 = .ok (.iload_n 1, 1) := by decide +kernel
theorem dX12_single_215 : decode cX12_single 215 = .ok (.aload_n 0, 1) := by decide +kernel
theorem dX12_single_216 : decode cX12_single 216 = .ok (.getfield 204, 3) := by decide +kernel
theorem dX12_single_219 : decode cX12_single 219 = .ok (.invokevirtual 251, 3) := by decide +kernel
theorem dX12_single_222 : decode cX12_single 222 = .ok (.iconst 1, 1) := by decide +kernel
theorem dX12_single_223 : decode cX12_single 223 = .ok (.ireturn, 1) := by decide +kernel
theorem dX12_whomTold_0 : decode cX12_whomTold 0 = .ok (.aload_n 0, 1) := by decide +kernel
theorem dX12_whomTold_1 : decode cX12_whomTold 1 = .ok (.getfield 69, 3) := by decide +kernel
theorem dX12_whomTold_4 : decode cX12_whomTold 4 = .ok (.iload_n 1, 1) := by decide +kernel
theorem dX12_whomTold_5 : decode cX12_whomTold 5 = .ok (.iconst 0, 1) := by decide +kernel
theorem dX12_whomTold_6 : decode cX12_whomTold 6 = .ok (.iastore, 1) := by decide +kernel
theorem dX12_whomTold_7 : decode cX12_whomTold 7 = .ok (.aload_n 0, 1) := by decide +kernel
theorem dX12_whomTold_8 : decode cX12_whomTold 8 = .ok (.getfield 66, 3) := by decide +kernel
theorem dX12_whomTold_11 : decode cX12_whomTold 11 = .ok (.iload_n 1, 1) := by decide +kernel
theorem dX12_whomTold_12 : decode cX12_whomTold 12 = .ok (.aload_n 0, 1) := by decide +kernel
theorem dX12_whomTold_13 : decode cX12_whomTold 13 = .ok (.invokevirtual 200, 3) := by decide +kernel
theorem dX12_whomTold_16 : decode cX12_whomTold 16 = .ok (.invokestatic 215, 3) := by decide +kernel
theorem dX12_whomTold_19 : decode cX12_whomTold 19 = .ok (.iastore, 1) := by decide +kernel
theorem dX12_whomTold_20 : decode cX12_whomTold 20 = .ok (.aload_n 0, 1) := by decide +kernel
theorem dX12_whomTold_21 : decode cX12_whomTold 21 = .ok (.getfield 66, 3) := by decide +kernel
theorem dX12_whomTold_24 : decode cX12_whomTold 24 = .ok (.iload_n 1, 1) := by decide +kernel
theorem dX12_whomTold_25 : decode cX12_whomTold 25 = .ok (.iaload, 1) := by decide +kernel
theorem dX12_whomTold_26 : decode cX12_whomTold 26 = .ok (.iconst (-1), 1) := by decide +kernel
theorem dX12_whomTold_27 : decode cX12_whomTold 27 = .ok (.if_icmp .eq 13, 3) := by decide +kernel
theorem dX12_whomTold_30 : decode cX12_whomTold 30 = .ok (.aload_n 0, 1) := by decide +kernel
theorem dX12_whomTold_31 : decode cX12_whomTold 31 = .ok (.aload_n 0, 1) := by decide +kernel
theorem dX12_whomTold_32 : decode cX12_whomTold 32 = .ok (.getfield 197, 3) := by decide +kernel
theorem dX12_whomTold_35 : decode cX12_whomTold 35 = .ok (.putfield 188, 3) := by decide +kernel
theorem dX12_whomTold_38 : decode cX12_whomTold 38 = .ok (.iconst 1, 1) := by decide +kernel
theorem dX12_whomTold_39 : decode cX12_whomTold 39 = .ok (.ireturn, 1) := by decide +kernel
theorem dX12_whomTold_40 : decode cX12_whomTold 40 = .ok (.aload_n 0, 1) := by decide +kernel
theorem dX12_whomTold_41 : decode cX12_whomTold 41 = .ok (.getfield 66, 3) := by decide +kernel
theorem dX12_whomTold_44 : decode cX12_whomTold 44 = .ok (.iload_n 1, 1) := by decide +kernel
theorem dX12_whomTold_45 : decode cX12_whomTold 45 = .ok (.aload_n 0, 1) := by decide +kernel
theorem dX12_whomTold_46 : decode cX12_whomTold 46 = .ok (.ldc2_w 278, 3) := by decide +kernel
theorem dX12_whomTold_49 : decode cX12_whomTold 49 = .ok (.invokevirtual 247, 3) := by decide +kernel
theorem dX12_whomTold_52 : decode cX12_whomTold 52 = .ok (.ifCond .eq 7, 3) := by decide +kernel
theorem dX12_whomTold_55 : decode cX12_whomTold 55 = .ok (.iconst 4, 1) := by decide +kernel
theorem dX12_whomTold_56 : decode cX12_whomTold 56 = .ok (.goto 18, 3) := by decide +kernel
theorem dX12_whomTold_59 : decode cX12_whomTold 59 = .ok (.aload_n 0, 1) := by decide +kernel
theorem dX12_whomTold_60 : decode cX12_whomTold 60 = .ok (.ldc2_w 280, 3) := by decide +kernel
theorem dX12_whomTold_63 : decode cX12_whomTold 63 = .ok (.invokevirtual 247, 3) := by decide +kernel
theorem dX12_whomTold_66 : decode cX12_whomTold 66 = .ok (.ifCond .eq 7, 3) := by decide +kernel
theorem dX12_whomTold_69 : decode cX12_whomTold 69 = .ok (.iconst 5, 1) := by decide +kernel
theorem dX12_whomTold_70 : decode cX12_whomTold 70 = .ok (.goto 4, 3) := by decide +kernel
theorem dX12_whomTold_73 : decode cX12_whomTold 73 = .ok (.iconst (-1), 1) := by decide +kernel
theorem dX12_whomTold_74 : decode cX12_whomTold 74 = .ok (.iastore, 1) := by decide +kernel
theorem dX12_whomTold_75 : decode cX12_whomTold 75 = .ok (.aload_n 0, 1) := by decide +kernel
theorem dX12_whomTold_76 : decode cX12_whomTold 76 = .ok (.getfield 66, 3) := by decide +kernel
theorem dX12_whomTold_79 : decode cX12_whomTold 79 = .ok (.iload_n 1, 1) := by decide +kernel
theorem dX12_whomTold_80 : decode cX12_whomTold 80 = .ok (.iaload, 1) := by decide +kernel
theorem dX12_whomTold_81 : decode cX12_whomTold 81 = .ok (.iconst (-1), 1) := by decide +kernel
theorem dX12_whomTold_82 : decode cX12_whomTold 82 = .ok (.if_icmp .eq 35, 3) := by decide +kernel
theorem dX12_whomTold_85 : decode cX12_whomTold 85 = .ok (.aload_n 0, 1) := by decide +kernel
theorem dX12_whomTold_86 : decode cX12_whomTold 86 = .ok (.getfield 66, 3) := by decide +kernel
theorem dX12_whomTold_89 : decode cX12_whomTold 89 = .ok (.iload_n 1, 1) := by decide +kernel
theorem dX12_whomTold_90 : decode cX12_whomTold 90 = .ok (.iaload, 1) := by decide +kernel
theorem dX12_whomTold_91 : decode cX12_whomTold 91 = .ok (.iconst 4, 1) := by decide +kernel
theorem dX12_whomTold_92 : decode cX12_whomTold 92 = .ok (.if_icmp .ne 15, 3) := by decide +kernel
theorem dX12_whomTold_95 : decode cX12_whomTold 95 = .ok (.aload_n 0, 1) := by decide +kernel
theorem dX12_whomTold_96 : decode cX12_whomTold 96 = .ok (.iconst 0, 1) := by decide +kernel
theorem dX12_whomTold_97 : decode cX12_whomTold 97 = .ok (.iconst 3, 1) := by decide +kernel
theorem dX12_whomTold_98 : decode cX12_whomTold 98 = .ok (.invokevirtual 274, 3) := by decide +kernel
theorem dX12_whomTold_101 : decode cX12_whomTold 101 = .ok (.ifCond .eq 16, 3) := by decide +kernel
theorem dX12_whomTold_104 : decode cX12_whomTold 104 = .ok (.goto 15, 3) := by decide +kernel
theorem dX12_whomTold_107 : decode cX12_whomTold 107 = .ok (.aload_n 0, 1) := by decide +kernel
theorem dX12_whomTold_108 : decode cX12_whomTold 108 = .ok (.iconst 1, 1) := by decide +kernel
theorem dX12_whomTold_109 : decode cX12_whomTold 109 = .ok (.bipush 99, 2) := by decide +kernel
theorem dX12_whomTold_111 : decode cX12_whomTold 111 = .ok (.invokevirtual 274, 3) := by decide +kernel
theorem dX12_whomTold_114 : decode cX12_whomTold 114 = .ok (.ifCond .ne 5, 3) := by decide +kernel
theorem dX12_whomTold_117 : decode cX12_whomTold 117 = .ok (.iconst 0, 1) := by decide +kernel
theorem dX12_whomTold_118 : decode cX12_whomTold 118 = .ok (.ireturn, 1) := by decide +kernel
theorem dX12_whomTold_119 : decode cX12_whomTold 119 = .ok (.aload_n 0, 1) := by decide +kernel
theorem dX12_whomTold_120 : decode cX12_whomTold 120 = .ok (.getfield 69, 3) := by decide +kernel
theorem dX12_whomTold_123 : decode cX12_whomTold 123 = .ok (.iload_n 1, 1) := by decide +kernel
theorem dX12_whomTold_124 : decode cX12_whomTold 124 = .ok (.aload_n 0, 1) := by decide +kernel
theorem dX12_whomTold_125 : decode cX12_whomTold 125 = .ok (.getfield 204, 3) := by decide +kernel
theorem dX12_whomTold_128 : decode cX12_whomTold 128 = .ok (.iastore, 1) := by decide +kernel
theorem dX12_whomTold_129 : decode cX12_whomTold 129 = .ok (.iconst 1, 1) := by decide +kernel
theorem dX12_whomTold_130 : decode cX12_whomTold 130 = .ok (.ireturn, 1) := by decide +kernel
theorem dX12_rule_0 : decode cX12_rule 0 = .ok (.aload_n 0, 1) := by decide +kernel
theorem dX12_rule_1 : decode cX12_rule 1 = .ok (.getfield 63, 3) := by decide +kernel
theorem dX12_rule_4 : decode cX12_rule 4 = .ok (.iload_n 1, 1) := by decide +kernel
theorem dX12_rule_5 : decode cX12_rule 5 = .ok (.aload_n 0, 1) := by decide +kernel
theorem dX12_rule_6 : decode cX12_rule 6 = .ok (.ldc2_w 282, 3) := by decide +kernel
theorem dX12_rule_9 : decode cX12_rule 9 = .ok (.invokevirtual 247, 3) := by decide +kernel
theorem dX12_rule_12 : decode cX12_rule 12 = .ok (.ifCond .eq 7, 3) := by decide +kernel
theorem dX12_rule_15 : decode cX12_rule 15 = .ok (.iconst 0, 1) := by decide +kernel
theorem dX12_rule_16 : decode cX12_rule 16 = .ok (.goto 32, 3) := by decide +kernel
theorem dX12_rule_19 : decode cX12_rule 19 = .ok (.aload_n 0, 1) := by decide +kernel
theorem dX12_rule_20 : decode cX12_rule 20 = .ok (.ldc2_w 284, 3) := by decide +kernel
theorem dX12_rule_23 : decode cX12_rule 23 = .ok (.invokevirtual 247, 3) := by decide +kernel
theorem dX12_rule_26 : decode cX12_rule 26 = .ok (.ifCond .eq 7, 3) := by decide +kernel
theorem dX12_rule_29 : decode cX12_rule 29 = .ok (.iconst 1, 1) := by decide +kernel
theorem dX12_rule_30 : decode cX12_rule 30 = .ok (.goto 18, 3) := by decide +kernel
theorem dX12_rule_33 : decode cX12_rule 33 = .ok (.aload_n 0, 1) := by decide +kernel
theorem dX12_rule_34 : decode cX12_rule 34 = .ok (.ldc2_w 286, 3) := by decide +kernel
theorem dX12_rule_37 : decode cX12_rule 37 = .ok (.invokevirtual 247, 3) := by decide +kernel
theorem dX12_rule_40 : decode cX12_rule 40 = .ok (.ifCond .eq 7, 3) := by decide +kernel
theorem dX12_rule_43 : decode cX12_rule 43 = .ok (.iconst 2, 1) := by decide +kernel
theorem dX12_rule_44 : decode cX12_rule 44 = .ok (.goto 4, 3) := by decide +kernel
theorem dX12_rule_47 : decode cX12_rule 47 = .ok (.iconst (-1), 1) := by decide +kernel
theorem dX12_rule_48 : decode cX12_rule 48 = .ok (.iastore, 1) := by decide +kernel
theorem dX12_rule_49 : decode cX12_rule 49 = .ok (.aload_n 0, 1) := by decide +kernel
theorem dX12_rule_50 : decode cX12_rule 50 = .ok (.getfield 63, 3) := by decide +kernel
theorem dX12_rule_53 : decode cX12_rule 53 = .ok (.iload_n 1, 1) := by decide +kernel
theorem dX12_rule_54 : decode cX12_rule 54 = .ok (.iaload, 1) := by decide +kernel
theorem dX12_rule_55 : decode cX12_rule 55 = .ok (.iconst (-1), 1) := by decide +kernel
theorem dX12_rule_56 : decode cX12_rule 56 = .ok (.if_icmp .ne 5, 3) := by decide +kernel
theorem dX12_rule_59 : decode cX12_rule 59 = .ok (.iconst 0, 1) := by decide +kernel
theorem dX12_rule_60 : decode cX12_rule 60 = .ok (.ireturn, 1) := by decide +kernel
theorem dX12_rule_61 : decode cX12_rule 61 = .ok (.aload_n 0, 1) := by decide +kernel
theorem dX12_rule_62 : decode cX12_rule 62 = .ok (.iconst 0, 1) := by decide +kernel
theorem dX12_rule_63 : decode cX12_rule 63 = .ok (.putfield 238, 3) := by decide +kernel
theorem dX12_rule_66 : decode cX12_rule 66 = .ok (.aload_n 0, 1) := by decide +kernel
theorem dX12_rule_67 : decode cX12_rule 67 = .ok (.getfield 72, 3) := by decide +kernel
theorem dX12_rule_70 : decode cX12_rule 70 = .ok (.iload_n 1, 1) := by decide +kernel
theorem dX12_rule_71 : decode cX12_rule 71 = .ok (.iconst 0, 1) := by decide +kernel
theorem dX12_rule_72 : decode cX12_rule 72 = .ok (.iastore, 1) := by decide +kernel
theorem dX12_rule_73 : decode cX12_rule 73 = .ok (.aload_n 0, 1) := by decide +kernel
theorem dX12_rule_74 : decode cX12_rule 74 = .ok (.getfield 63, 3) := by decide +kernel
theorem dX12_rule_77 : decode cX12_rule 77 = .ok (.iload_n 1, 1) := by decide +kernel
theorem dX12_rule_78 : decode cX12_rule 78 = .ok (.iaload, 1) := by decide +kernel
theorem dX12_rule_79 : decode cX12_rule 79 = .ok (.iconst 2, 1) := by decide +kernel
theorem dX12_rule_80 : decode cX12_rule 80 = .ok (.if_icmp .eq 33, 3) := by decide +kernel
theorem dX12_rule_83 : decode cX12_rule 83 = .ok (.aload_n 0, 1) := by decide +kernel
theorem dX12_rule_84 : decode cX12_rule 84 = .ok (.iload_n 1, 1) := by decide +kernel
theorem dX12_rule_85 : decode cX12_rule 85 = .ok (.invokevirtual 288, 3) := by decide +kernel
theorem dX12_rule_88 : decode cX12_rule 88 = .ok (.ifCond .eq 13, 3) := by decide +kernel
theorem dX12_rule_91 : decode cX12_rule 91 = .ok (.aload_n 0, 1) := by decide +kernel
theorem dX12_rule_92 : decode cX12_rule 92 = .ok (.iconst 0, 1) := by decide +kernel
theorem dX12_rule_93 : decode cX12_rule 93 = .ok (.bipush 60, 2) := by decide +kernel
theorem dX12_rule_95 : decode cX12_rule 95 = .ok (.invokevirtual 274, 3) := by decide +kernel
theorem dX12_rule_98 : decode cX12_rule 98 = .ok (.ifCond .ne 5, 3) := by decide +kernel
theorem dX12_rule_101 : decode cX12_rule 101 = .ok (.iconst 0, 1) := by decide +kernel
theorem dX12_rule_102 : decode cX12_rule 102 = .ok (.ireturn, 1) := by decide +kernel
theorem dX12_rule_103 : decode cX12_rule 103 = .ok (.aload_n 0, 1) := by decide +kernel
theorem dX12_rule_104 : decode cX12_rule 104 = .ok (.getfield 72, 3) := by decide +kernel
theorem dX12_rule_107 : decode cX12_rule 107 = .ok (.iload_n 1, 1) := by decide +kernel
theorem dX12_rule_108 : decode cX12_rule 108 = .ok (.aload_n 0, 1) := by decide +kernel
theorem dX12_rule_109 : decode cX12_rule 109 = .ok (.getfield 204, 3) := by decide +kernel
theorem dX12_rule_112 : decode cX12_rule 112 = .ok (.iastore, 1) := by decide +kernel
theorem dX12_rule_113 : decode cX12_rule 113 = .ok (.aload_n 0, 1) := by decide +kernel
theorem dX12_rule_114 : decode cX12_rule 114 = .ok (.getfield 75, 3) := by decide +kernel
theorem dX12_rule_117 : decode cX12_rule 117 = .ok (.iload_n 1, 1) := by decide +kernel
theorem dX12_rule_118 : decode cX12_rule 118 = .ok (.aload_n 0, 1) := by decide +kernel
theorem dX12_rule_119 : decode cX12_rule 119 = .ok (.getfield 235, 3) := by decide +kernel
theorem dX12_rule_122 : decode cX12_rule 122 = .ok (.iastore, 1) := by decide +kernel
theorem dX12_rule_123 : decode cX12_rule 123 = .ok (.aload_n 0, 1) := by decide +kernel
theorem dX12_rule_124 : decode cX12_rule 124 = .ok (.ldc2_w 291, 3) := by decide +kernel
theorem dX12_rule_127 : decode cX12_rule 127 = .ok (.invokevirtual 247, 3) := by decide +kernel
theorem dX12_rule_130 : decode cX12_rule 130 = .ok (.ifCond .eq 12, 3) := by decide +kernel
theorem dX12_rule_133 : decode cX12_rule 133 = .ok (.aload_n 0, 1) := by decide +kernel
theorem dX12_rule_134 : decode cX12_rule 134 = .ok (.invokevirtual 265, 3) := by decide +kernel
theorem dX12_rule_137 : decode cX12_rule 137 = .ok (.ifCond .ne 5, 3) := by decide +kernel
theorem dX12_rule_140 : decode cX12_rule 140 = .ok (.iconst 0, 1) := by decide +kernel
theorem dX12_rule_141 : decode cX12_rule 141 = .ok (.ireturn, 1) := by decide +kernel
theorem dX12_rule_142 : decode cX12_rule 142 = .ok (.aload_n 0, 1) := by decide +kernel
theorem dX12_rule_143 : decode cX12_rule 143 = .ok (.getfield 78, 3) := by decide +kernel
theorem dX12_rule_146 : decode cX12_rule 146 = .ok (.iload_n 1, 1) := by decide +kernel
theorem dX12_rule_147 : decode cX12_rule 147 = .ok (.aload_n 0, 1) := by decide +kernel
theorem dX12_rule_148 : decode cX12_rule 148 = .ok (.getfield 235, 3) := by decide +kernel
theorem dX12_rule_151 : decode cX12_rule 151 = .ok (.iastore, 1) := by decide +kernel
theorem dX12_rule_152 : decode cX12_rule 152 = .ok (.aload_n 0, 1) := by decide +kernel
theorem dX12_rule_153 : decode cX12_rule 153 = .ok (.bipush 59, 2) := by decide +kernel
theorem dX12_rule_155 : decode cX12_rule 155 = .ok (.invokevirtual 268, 3) := by decide +kernel
theorem dX12_rule_158 : decode cX12_rule 158 = .ok (.ireturn, 1) := by decide +kernel
theorem dX12_law_0 : decode cX12_law 0 = .ok (.iload_n 1, 1) := by decide +kernel
theorem dX12_law_1 : decode cX12_law 1 = .ok (.iconst 0, 1) := by decide +kernel
theorem dX12_law_2 : decode cX12_law 2 = .ok (.aload_n 0, 1) := by decide +kernel
theorem dX12_law_3 : decode cX12_law 3 = .ok (.getfield 181, 3) := by decide +kernel
theorem dX12_law_6 : decode cX12_law 6 = .ok (.invokestatic 157, 3) := by decide +kernel
theorem dX12_law_9 : decode cX12_law 9 = .ok (.ifCond .ne 6, 3) := by decide +kernel
theorem dX12_law_12 : decode cX12_law 12 = .ok (.bipush (-2), 2) := by decide +kernel
theorem dX12_law_14 : decode cX12_law 14 = .ok (.ireturn, 1) := by decide +kernel
theorem dX12_law_15 : decode cX12_law 15 = .ok (.aload_n 0, 1) := by decide +kernel
theorem dX12_law_16 : decode cX12_law 16 = .ok (.getfield 293, 3) := by decide +kernel
theorem dX12_law_19 : decode cX12_law 19 = .ok (.iconst 5, 1) := by decide +kernel
theorem dX12_law_20 : decode cX12_law 20 = .ok (.if_icmp .ne 6, 3) := by decide +kernel
theorem dX12_law_23 : decode cX12_law 23 = .ok (.bipush (-3), 2) := by decide +kernel
theorem dX12_law_25 : decode cX12_law 25 = .ok (.ireturn, 1) := by decide +kernel
theorem dX12_law_26 : decode cX12_law 26 = .ok (.iconst 0, 1) := by decide +kernel
theorem dX12_law_27 : decode cX12_law 27 = .ok (.istore_n 2, 1) := by decide +kernel
theorem dX12_law_28 : decode cX12_law 28 = .ok (.iload_n 2, 1) := by decide +kernel
theorem dX12_law_29 : decode cX12_law 29 = .ok (.iload_n 1, 1) := by decide +kernel
theorem dX12_law_30 : decode cX12_law 30 = .ok (.if_icmp .ge 21, 3) := by decide +kernel
theorem dX12_law_33 : decode cX12_law 33 = .ok (.aload_n 0, 1) := by decide +kernel
theorem dX12_law_34 : decode cX12_law 34 = .ok (.getfield 98, 3) := by decide +kernel
theorem dX12_law_37 : decode cX12_law 37 = .ok (.iload_n 2, 1) := by decide +kernel
theorem dX12_law_38 : decode cX12_law 38 = .ok (.aload_n 0, 1) := by decide +kernel
theorem dX12_law_39 : decode cX12_law 39 = .ok (.getfield 94, 3) := by decide +kernel
theorem dX12_law_42 : decode cX12_law 42 = .ok (.iload_n 2, 1) := by decide +kernel
theorem dX12_law_43 : decode cX12_law 43 = .ok (.baload, 1) := by decide +kernel
theorem dX12_law_44 : decode cX12_law 44 = .ok (.bastore, 1) := by decide +kernel
theorem dX12_law_45 : decode cX12_law 45 = .ok (.iinc 2 1, 3) := by decide +kernel
theorem dX12_law_48 : decode cX12_law 48 = .ok (.goto (-20), 3) := by decide +kernel
theorem dX12_law_51 : decode cX12_law 51 = .ok (.aload_n 0, 1) := by decide +kernel
theorem dX12_law_52 : decode cX12_law 52 = .ok (.iload_n 1, 1) := by decide +kernel
theorem dX12_law_53 : decode cX12_law 53 = .ok (.putfield 191, 3) := by decide +kernel
theorem dX12_law_56 : decode cX12_law 56 = .ok (.aload_n 0, 1) := by decide +kernel
theorem dX12_law_57 : decode cX12_law 57 = .ok (.iconst 0, 1) := by decide +kernel
theorem dX12_law_58 : decode cX12_law 58 = .ok (.putfield 181, 3) := by decide +kernel
theorem dX12_law_61 : decode cX12_law 61 = .ok (.aload_n 0, 1) := by decide +kernel
theorem dX12_law_62 : decode cX12_law 62 = .ok (.iconst 0, 1) := by decide +kernel
theorem dX12_law_63 : decode cX12_law 63 = .ok (.putfield 188, 3) := by decide +kernel
theorem dX12_law_66 : decode cX12_law 66 = .ok (.aload_n 0, 1) := by decide +kernel
theorem dX12_law_67 : decode cX12_law 67 = .ok (.getfield 235, 3) := by decide +kernel
theorem dX12_law_70 : decode cX12_law 70 = .ok (.istore_n 2, 1) := by decide +kernel
theorem dX12_law_71 : decode cX12_law 71 = .ok (.aload_n 0, 1) := by decide +kernel
theorem dX12_law_72 : decode cX12_law 72 = .ok (.getfield 60, 3) := by decide +kernel
theorem dX12_law_75 : decode cX12_law 75 = .ok (.aload_n 0, 1) := by decide +kernel
theorem dX12_law_76 : decode cX12_law 76 = .ok (.getfield 293, 3) := by decide +kernel
theorem dX12_law_79 : decode cX12_law 79 = .ok (.iconst 0, 1) := by decide +kernel
theorem dX12_law_80 : decode cX12_law 80 = .ok (.iastore, 1) := by decide +kernel
theorem dX12_law_81 : decode cX12_law 81 = .ok (.iconst 1, 1) := by decide +kernel
theorem dX12_law_82 : decode cX12_law 82 = .ok (.istore_n 3, 1) := by decide +kernel
theorem dX12_law_83 : decode cX12_law 83 = .ok (.aload_n 0, 1) := by decide +kernel
theorem dX12_law_84 : decode cX12_law 84 = .ok (.invokevirtual 194, 3) := by decide +kernel
theorem dX12_law_87 : decode cX12_law 87 = .ok (.iload_n 3, 1) := by decide +kernel
theorem dX12_law_88 : decode cX12_law 88 = .ok (.ifCond .eq 85, 3) := by decide +kernel
theorem dX12_law_91 : decode cX12_law 91 = .ok (.aload_n 0, 1) := by decide +kernel
theorem dX12_law_92 : decode cX12_law 92 = .ok (.getfield 188, 3) := by decide +kernel
theorem dX12_law_95 : decode cX12_law 95 = .ok (.aload_n 0, 1) := by decide +kernel
theorem dX12_law_96 : decode cX12_law 96 = .ok (.getfield 191, 3) := by decide +kernel
theorem dX12_law_99 : decode cX12_law 99 = .ok (.if_icmp .ge 74, 3) := by decide +kernel
theorem dX12_law_102 : decode cX12_law 102 = .ok (.aload_n 0, 1) := by decide +kernel
theorem dX12_law_103 : decode cX12_law 103 = .ok (.getfield 60, 3) := by decide +kernel
theorem dX12_law_106 : decode cX12_law 106 = .ok (.aload_n 0, 1) := by decide +kernel
theorem dX12_law_107 : decode cX12_law 107 = .ok (.getfield 293, 3) := by decide +kernel
theorem dX12_law_110 : decode cX12_law 110 = .ok (.iaload, 1) := by decide +kernel
theorem dX12_law_111 : decode cX12_law 111 = .ok (.bipush 16, 2) := by decide +kernel
theorem dX12_law_113 : decode cX12_law 113 = .ok (.if_icmp .ge 31, 3) := by decide +kernel
theorem dX12_law_116 : decode cX12_law 116 = .ok (.aload_n 0, 1) := by decide +kernel
theorem dX12_law_117 : decode cX12_law 117 = .ok (.bipush 16, 2) := by decide +kernel
theorem dX12_law_119 : decode cX12_law 119 = .ok (.aload_n 0, 1) := by decide +kernel
theorem dX12_law_120 : decode cX12_law 120 = .ok (.getfield 293, 3) := by decide +kernel
theorem dX12_law_123 : decode cX12_law 123 = .ok (.imul, 1) := by decide +kernel
theorem dX12_law_124 : decode cX12_law 124 = .ok (.aload_n 0, 1) := by decide +kernel
theorem dX12_law_125 : decode cX12_law 125 = .ok (.getfield 60, 3) := by decide +kernel
theorem dX12_law_128 : decode cX12_law 128 = .ok (.aload_n 0, 1) := by decide +kernel
theorem dX12_law_129 : decode cX12_law 129 = .ok (.getfield 293, 3) := by decide +kernel
theorem dX12_law_132 : decode cX12_law 132 = .ok (.iaload, 1) := by decide +kernel
theorem dX12_law_133 : decode cX12_law 133 = .ok (.iadd, 1) := by decide +kernel
theorem dX12_law_134 : decode cX12_law 134 = .ok (.invokevirtual 296, 3) := by decide +kernel
theorem dX12_law_137 : decode cX12_law 137 = .ok (.ifCond .eq 7, 3) := by decide +kernel
theorem dX12_law_140 : decode cX12_law 140 = .ok (.iconst 1, 1) := by decide +kernel
theorem dX12_law_141 : decode cX12_law 141 = .ok (.goto 4, 3) := by decide +kernel
theorem dX12_law_144 : decode cX12_law 144 = .ok (.iconst 0, 1) := by decide +kernel
theorem dX12_law_145 : decode cX12_law 145 = .ok (.istore_n 3, 1) := by decide +kernel
theorem dX12_law_146 : decode cX12_law 146 = .ok (.iload_n 3, 1) := by decide +kernel
theorem dX12_law_147 : decode cX12_law 147 = .ok (.ifCond .ne 6, 3) := by decide +kernel
theorem dX12_law_150 : decode cX12_law 150 = .ok (.goto (-63), 3) := by decide +kernel
theorem dX12_law_153 : decode cX12_law 153 = .ok (.aload_n 0, 1) := by decide +kernel
theorem dX12_law_154 : decode cX12_law 154 = .ok (.getfield 60, 3) := by decide +kernel
theorem dX12_law_157 : decode cX12_law 157 = .ok (.aload_n 0, 1) := by decide +kernel
theorem dX12_law_158 : decode cX12_law 158 = .ok (.getfield 293, 3) := by decide +kernel
theorem dX12_law_161 : decode cX12_law 161 = .ok (.dup2, 1) := by decide +kernel
theorem dX12_law_162 : decode cX12_law 162 = .ok (.iaload, 1) := by decide +kernel
theorem dX12_law_163 : decode cX12_law 163 = .ok (.iconst 1, 1) := by decide +kernel
theorem dX12_law_164 : decode cX12_law 164 = .ok (.iadd, 1) := by decide +kernel
theorem dX12_law_165 : decode cX12_law 165 = .ok (.iastore, 1) := by decide +kernel
theorem dX12_law_166 : decode cX12_law 166 = .ok (.aload_n 0, 1) := by decide +kernel
theorem dX12_law_167 : decode cX12_law 167 = .ok (.invokevirtual 194, 3) := by decide +kernel
theorem dX12_law_170 : decode cX12_law 170 = .ok (.goto (-83), 3) := by decide +kernel
theorem dX12_law_173 : decode cX12_law 173 = .ok (.aload_n 0, 1) := by decide +kernel
theorem dX12_law_174 : decode cX12_law 174 = .ok (.iload_n 3, 1) := by decide +kernel
theorem dX12_law_175 : decode cX12_law 175 = .ok (.ifCond .eq 7, 3) := by decide +kernel
theorem dX12_law_178 : decode cX12_law 178 = .ok (.iconst (-1), 1) := by decide +kernel
theorem dX12_law_179 : decode cX12_law 179 = .ok (.goto 7, 3) := by decide +kernel
theorem dX12_law_182 : decode cX12_law 182 = .ok (.aload_n 0, 1) := by decide +kernel
theorem dX12_law_183 : decode cX12_law 183 = .ok (.getfield 188, 3) := by decide +kernel
theorem dX12_law_186 : decode cX12_law 186 = .ok (.putfield 57, 3) := by decide +kernel
theorem dX12_law_189 : decode cX12_law 189 = .ok (.iload_n 3, 1) := by decide +kernel
theorem dX12_law_190 : decode cX12_law 190 = .ok (.ifCond .ne 10, 3) := by decide +kernel
theorem dX12_law_193 : decode cX12_law 193 = .ok (.aload_n 0, 1) := by decide +kernel
theorem dX12_law_194 : decode cX12_law 194 = .ok (.iload_n 2, 1) := by decide +kernel
theorem dX12_law_195 : decode cX12_law 195 = .ok (.putfield 235, 3) := by decide +kernel
theorem dX12_law_198 : decode cX12_law 198 = .ok (.iconst (-1), 1) := by decide +kernel
theorem dX12_law_199 : decode cX12_law 199 = .ok (.ireturn, 1) := by decide +kernel
theorem dX12_law_200 : decode cX12_law 200 = .ok (.aload_n 0, 1) := by decide +kernel
theorem dX12_law_201 : decode cX12_law 201 = .ok (.aload_n 0, 1) := by decide +kernel
theorem dX12_law_202 : decode cX12_law 202 = .ok (.getfield 293, 3) := by decide +kernel
theorem dX12_law_205 : decode cX12_law 205 = .ok (.putfield 53, 3) := by decide +kernel
theorem dX12_law_208 : decode cX12_law 208 = .ok (.aload_n 0, 1) := by decide +kernel
theorem dX12_law_209 : decode cX12_law 209 = .ok (.dup, 1) := by decide +kernel
theorem dX12_law_210 : decode cX12_law 210 = .ok (.getfield 293, 3) := by decide +kernel
theorem dX12_law_213 : decode cX12_law 213 = .ok (.iconst 1, 1) := by decide +kernel
theorem dX12_law_214 : decode cX12_law 214 = .ok (.iadd, 1) := by decide +kernel
theorem dX12_law_215 : decode cX12_law 215 = .ok (.putfield 293, 3) := by decide +kernel
theorem dX12_law_218 : decode cX12_law 218 = .ok (.aload_n 0, 1) := by decide +kernel
theorem dX12_law_219 : decode cX12_law 219 = .ok (.getfield 53, 3) := by decide +kernel
theorem dX12_law_222 : decode cX12_law 222 = .ok (.ireturn, 1) := by decide +kernel
theorem dX12_force_0 : decode cX12_force 0 = .ok (.iload_n 1, 1) := by decide +kernel
theorem dX12_force_1 : decode cX12_force 1 = .ok (.iconst 0, 1) := by decide +kernel
theorem dX12_force_2 : decode cX12_force 2 = .ok (.aload_n 0, 1) := by decide +kernel
theorem dX12_force_3 : decode cX12_force 3 = .ok (.getfield 293, 3) := by decide +kernel
theorem dX12_force_6 : decode cX12_force 6 = .ok (.iconst 1, 1) := by decide +kernel
theorem dX12_force_7 : decode cX12_force 7 = .ok (.isub, 1) := by decide +kernel
theorem dX12_force_8 : decode cX12_force 8 = .ok (.invokestatic 157, 3) := by decide +kernel
theorem dX12_force_11 : decode cX12_force 11 = .ok (.ifCond .ne 5, 3) := by decide +kernel
theorem dX12_force_14 : decode cX12_force 14 = .ok (.iconst 0, 1) := by decide +kernel
theorem dX12_force_15 : decode cX12_force 15 = .ok (.ireturn, 1) := by decide +kernel
theorem dX12_force_16 : decode cX12_force 16 = .ok (.aload_n 0, 1) := by decide +kernel
theorem dX12_force_17 : decode cX12_force 17 = .ok (.iload_n 1, 1) := by decide +kernel
theorem dX12_force_18 : decode cX12_force 18 = .ok (.putfield 53, 3) := by decide +kernel
theorem dX12_force_21 : decode cX12_force 21 = .ok (.iconst 1, 1) := by decide +kernel
theorem dX12_force_22 : decode cX12_force 22 = .ok (.ireturn, 1) := by decide +kernel
theorem dX12_fault_0 : decode cX12_fault 0 = .ok (.aload_n 0, 1) := by decide +kernel
theorem dX12_fault_1 : decode cX12_fault 1 = .ok (.getfield 57, 3) := by decide +kernel
theorem dX12_fault_4 : decode cX12_fault 4 = .ok (.ireturn, 1) := by decide +kernel
theorem dX12_meanOf_0 : decode cX12_meanOf 0 = .ok (.iconst 0, 1) := by decide +kernel
theorem dX12_meanOf_1 : decode cX12_meanOf 1 = .ok (.istore 4, 2) := by decide +kernel
theorem dX12_meanOf_3 : decode cX12_meanOf 3 = .ok (.iconst 0, 1) := by decide +kernel
theorem dX12_meanOf_4 : decode cX12_meanOf 4 = .ok (.istore 5, 2) := by decide +kernel
theorem dX12_meanOf_6 : decode cX12_meanOf 6 = .ok (.iconst 0, 1) := by decide +kernel
theorem dX12_meanOf_7 : decode cX12_meanOf 7 = .ok (.istore 6, 2) := by decide +kernel
theorem dX12_meanOf_9 : decode cX12_meanOf 9 = .ok (.iload 6, 2) := by decide +kernel
theorem dX12_meanOf_11 : decode cX12_meanOf 11 = .ok (.aload_n 0, 1) := by decide +kernel
theorem dX12_meanOf_12 : decode cX12_meanOf 12 = .ok (.getfield 154, 3) := by decide +kernel
theorem dX12_meanOf_15 : decode cX12_meanOf 15 = .ok (.if_icmp .ge 106, 3) := by decide +kernel
theorem dX12_meanOf_18 : decode cX12_meanOf 18 = .ok (.aload_n 0, 1) := by decide +kernel
theorem dX12_meanOf_19 : decode cX12_meanOf 19 = .ok (.getfield 26, 3) := by decide +kernel
theorem dX12_meanOf_22 : decode cX12_meanOf 22 = .ok (.iload_n 1, 1) := by decide +kernel
theorem dX12_meanOf_23 : decode cX12_meanOf 23 = .ok (.iaload, 1) := by decide +kernel
theorem dX12_meanOf_24 : decode cX12_meanOf 24 = .ok (.iload 6, 2) := by decide +kernel
theorem dX12_meanOf_26 : decode cX12_meanOf 26 = .ok (.invokestatic 299, 3) := by decide +kernel
theorem dX12_meanOf_29 : decode cX12_meanOf 29 = .ok (.ifCond .ne 6, 3) := by decide +kernel
theorem dX12_meanOf_32 : decode cX12_meanOf 32 = .ok (.goto 83, 3) := by decide +kernel
theorem dX12_meanOf_35 : decode cX12_meanOf 35 = .ok (.iload_n 2, 1) := by decide +kernel
theorem dX12_meanOf_36 : decode cX12_meanOf 36 = .ok (.ifCond .ne 19, 3) := by decide +kernel
theorem dX12_meanOf_39 : decode cX12_meanOf 39 = .ok (.aload_n 0, 1) := by decide +kernel
theorem dX12_meanOf_40 : decode cX12_meanOf 40 = .ok (.getfield 13, 3) := by decide +kernel
theorem dX12_meanOf_43 : decode cX12_meanOf 43 = .ok (.iload 6, 2) := by decide +kernel
theorem dX12_meanOf_45 : decode cX12_meanOf 45 = .ok (.iaload, 1) := by decide +kernel
theorem dX12_meanOf_46 : decode cX12_meanOf 46 = .ok (.aload_n 0, 1) := by decide +kernel
theorem dX12_meanOf_47 : decode cX12_meanOf 47 = .ok (.getfield 13, 3) := by decide +kernel
theorem dX12_meanOf_50 : decode cX12_meanOf 50 = .ok (.iload_n 1, 1) := by decide +kernel
theorem dX12_meanOf_51 : decode cX12_meanOf 51 = .ok (.iaload, 1) := by decide +kernel
theorem dX12_meanOf_52 : decode cX12_meanOf 52 = .ok (.if_icmp .le 63, 3) := by decide +kernel
theorem dX12_meanOf_55 : decode cX12_meanOf 55 = .ok (.iload_n 2, 1) := by decide +kernel
theorem dX12_meanOf_56 : decode cX12_meanOf 56 = .ok (.iconst 1, 1) := by decide +kernel
theorem dX12_meanOf_57 : decode cX12_meanOf 57 = .ok (.if_icmp .ne 19, 3) := by decide +kernel
theorem dX12_meanOf_60 : decode cX12_meanOf 60 = .ok (.aload_n 0, 1) := by decide +kernel
theorem dX12_meanOf_61 : decode cX12_meanOf 61 = .ok (.getfield 13, 3) := by decide +kernel
theorem dX12_meanOf_64 : decode cX12_meanOf 64 = .ok (.iload 6, 2) := by decide +kernel
theorem dX12_meanOf_66 : decode cX12_meanOf 66 = .ok (.iaload, 1) := by decide +kernel
theorem dX12_meanOf_67 : decode cX12_meanOf 67 = .ok (.aload_n 0, 1) := by decide +kernel
theorem dX12_meanOf_68 : decode cX12_meanOf 68 = .ok (.getfield 13, 3) := by decide +kernel
theorem dX12_meanOf_71 : decode cX12_meanOf 71 = .ok (.iload_n 1, 1) := by decide +kernel
theorem dX12_meanOf_72 : decode cX12_meanOf 72 = .ok (.iaload, 1) := by decide +kernel
theorem dX12_meanOf_73 : decode cX12_meanOf 73 = .ok (.if_icmp .ge 42, 3) := by decide +kernel
theorem dX12_meanOf_76 : decode cX12_meanOf 76 = .ok (.iload_n 2, 1) := by decide +kernel
theorem dX12_meanOf_77 : decode cX12_meanOf 77 = .ok (.iconst 2, 1) := by decide +kernel
theorem dX12_meanOf_78 : decode cX12_meanOf 78 = .ok (.if_icmp .ne 22, 3) := by decide +kernel
theorem dX12_meanOf_81 : decode cX12_meanOf 81 = .ok (.aload_n 0, 1) := by decide +kernel
theorem dX12_meanOf_82 : decode cX12_meanOf 82 = .ok (.getfield 13, 3) := by decide +kernel
theorem dX12_meanOf_85 : decode cX12_meanOf 85 = .ok (.iload 6, 2) := by decide +kernel
theorem dX12_meanOf_87 : decode cX12_meanOf 87 = .ok (.iaload, 1) := by decide +kernel
theorem dX12_meanOf_88 : decode cX12_meanOf 88 = .ok (.aload_n 0, 1) := by decide +kernel
theorem dX12_meanOf_89 : decode cX12_meanOf 89 = .ok (.getfield 13, 3) := by decide +kernel
theorem dX12_meanOf_92 : decode cX12_meanOf 92 = .ok (.iload_n 1, 1) := by decide +kernel
theorem dX12_meanOf_93 : decode cX12_meanOf 93 = .ok (.iaload, 1) := by decide +kernel
theorem dX12_meanOf_94 : decode cX12_meanOf 94 = .ok (.if_icmp .eq 6, 3) := by decide +kernel
theorem dX12_meanOf_97 : decode cX12_meanOf 97 = .ok (.goto 18, 3) := by decide +kernel
theorem dX12_meanOf_100 : decode cX12_meanOf 100 = .ok (.iload 4, 2) := by decide +kernel
theorem dX12_meanOf_102 : decode cX12_meanOf 102 = .ok (.aload_n 0, 1) := by decide +kernel
theorem dX12_meanOf_103 : decode cX12_meanOf 103 = .ok (.iload 6, 2) := by decide +kernel
theorem dX12_meanOf_105 : decode cX12_meanOf 105 = .ok (.iload_n 3, 1) := by decide +kernel
theorem dX12_meanOf_106 : decode cX12_meanOf 106 = .ok (.invokevirtual 302, 3) := by decide +kernel
theorem dX12_meanOf_109 : decode cX12_meanOf 109 = .ok (.iadd, 1) := by decide +kernel
theorem dX12_meanOf_110 : decode cX12_meanOf 110 = .ok (.istore 4, 2) := by decide +kernel
theorem dX12_meanOf_112 : decode cX12_meanOf 112 = .ok (.iinc 5 1, 3) := by decide +kernel
theorem dX12_meanOf_115 : decode cX12_meanOf 115 = .ok (.iinc 6 1, 3) := by decide +kernel
theorem dX12_meanOf_118 : decode cX12_meanOf 118 = .ok (.goto (-109), 3) := by decide +kernel
theorem dX12_meanOf_121 : decode cX12_meanOf 121 = .ok (.iload 5, 2) := by decide +kernel
theorem dX12_meanOf_123 : decode cX12_meanOf 123 = .ok (.ifCond .ne 7, 3) := by decide +kernel
theorem dX12_meanOf_126 : decode cX12_meanOf 126 = .ok (.iconst (-1), 1) := by decide +kernel
theorem dX12_meanOf_127 : decode cX12_meanOf 127 = .ok (.goto 8, 3) := by decide +kernel
theorem dX12_meanOf_130 : decode cX12_meanOf 130 = .ok (.iload 4, 2) := by decide +kernel
theorem dX12_meanOf_132 : decode cX12_meanOf 132 = .ok (.iload 5, 2) := by decide +kernel
theorem dX12_meanOf_134 : decode cX12_meanOf 134 = .ok (.idiv, 1) := by decide +kernel
theorem dX12_meanOf_135 : decode cX12_meanOf 135 = .ok (.ireturn, 1) := by decide +kernel
theorem dX12_meanOfAll_0 : decode cX12_meanOfAll 0 = .ok (.iload_n 1, 1) := by decide +kernel
theorem dX12_meanOfAll_1 : decode cX12_meanOfAll 1 = .ok (.ifCond .lt 10, 3) := by decide +kernel
theorem dX12_meanOfAll_4 : decode cX12_meanOfAll 4 = .ok (.aload_n 0, 1) := by decide +kernel
theorem dX12_meanOfAll_5 : decode cX12_meanOfAll 5 = .ok (.getfield 154, 3) := by decide +kernel
theorem dX12_meanOfAll_8 : decode cX12_meanOfAll 8 = .ok (.ifCond .ne 5, 3) := by decide +kernel
theorem dX12_meanOfAll_11 : decode cX12_meanOfAll 11 = .ok (.iconst (-1), 1) := by decide +kernel
theorem dX12_meanOfAll_12 : decode cX12_meanOfAll 12 = .ok (.ireturn, 1) := by decide +kernel
theorem dX12_meanOfAll_13 : decode cX12_meanOfAll 13 = .ok (.iconst 0, 1) := by decide +kernel
theorem dX12_meanOfAll_14 : decode cX12_meanOfAll 14 = .ok (.istore_n 2, 1) := by decide +kernel
theorem dX12_meanOfAll_15 : decode cX12_meanOfAll 15 = .ok (.iconst 0, 1) := by decide +kernel
theorem dX12_meanOfAll_16 : decode cX12_meanOfAll 16 = .ok (.istore_n 3, 1) := by decide +kernel
theorem dX12_meanOfAll_17 : decode cX12_meanOfAll 17 = .ok (.iload_n 3, 1) := by decide +kernel
theorem dX12_meanOfAll_18 : decode cX12_meanOfAll 18 = .ok (.aload_n 0, 1) := by decide +kernel
theorem dX12_meanOfAll_19 : decode cX12_meanOfAll 19 = .ok (.getfield 154, 3) := by decide +kernel
theorem dX12_meanOfAll_22 : decode cX12_meanOfAll 22 = .ok (.if_icmp .ge 18, 3) := by decide +kernel
theorem dX12_meanOfAll_25 : decode cX12_meanOfAll 25 = .ok (.iload_n 2, 1) := by decide +kernel
theorem dX12_meanOfAll_26 : decode cX12_meanOfAll 26 = .ok (.aload_n 0, 1) := by decide +kernel
theorem dX12_meanOfAll_27 : decode cX12_meanOfAll 27 = .ok (.iload_n 3, 1) := by decide +kernel
theorem dX12_meanOfAll_28 : decode cX12_meanOfAll 28 = .ok (.iload_n 1, 1) := by decide +kernel
theorem dX12_meanOfAll_29 : decode cX12_meanOfAll 29 = .ok (.invokevirtual 302, 3) := by decide +kernel
theorem dX12_meanOfAll_32 : decode cX12_meanOfAll 32 = .ok (.iadd, 1) := by decide +kernel
theorem dX12_meanOfAll_33 : decode cX12_meanOfAll 33 = .ok (.istore_n 2, 1) := by decide +kernel
theorem dX12_meanOfAll_34 : decode cX12_meanOfAll 34 = .ok (.iinc 3 1, 3) := by decide +kernel
theorem dX12_meanOfAll_37 : decode cX12_meanOfAll 37 = .ok (.goto (-20), 3) := by decide +kernel
theorem dX12_meanOfAll_40 : decode cX12_meanOfAll 40 = .ok (.iload_n 2, 1) := by decide +kernel
theorem dX12_meanOfAll_41 : decode cX12_meanOfAll 41 = .ok (.aload_n 0, 1) := by decide +kernel
theorem dX12_meanOfAll_42 : decode cX12_meanOfAll 42 = .ok (.getfield 154, 3) := by decide +kernel
theorem dX12_meanOfAll_45 : decode cX12_meanOfAll 45 = .ok (.idiv, 1) := by decide +kernel
theorem dX12_meanOfAll_46 : decode cX12_meanOfAll 46 = .ok (.ireturn, 1) := by decide +kernel
theorem dX12_meanBy_0 : decode cX12_meanBy 0 = .ok (.aload_n 0, 1) := by decide +kernel
theorem dX12_meanBy_1 : decode cX12_meanBy 1 = .ok (.getfield 66, 3) := by decide +kernel
theorem dX12_meanBy_4 : decode cX12_meanBy 4 = .ok (.iload_n 1, 1) := by decide +kernel
theorem dX12_meanBy_5 : decode cX12_meanBy 5 = .ok (.iaload, 1) := by decide +kernel
theorem dX12_meanBy_6 : decode cX12_meanBy 6 = .ok (.iconst 4, 1) := by decide +kernel
theorem dX12_meanBy_7 : decode cX12_meanBy 7 = .ok (.if_icmp .ne 15, 3) := by decide +kernel
theorem dX12_meanBy_10 : decode cX12_meanBy 10 = .ok (.aload_n 0, 1) := by decide +kernel
theorem dX12_meanBy_11 : decode cX12_meanBy 11 = .ok (.aload_n 0, 1) := by decide +kernel
theorem dX12_meanBy_12 : decode cX12_meanBy 12 = .ok (.getfield 69, 3) := by decide +kernel
theorem dX12_meanBy_15 : decode cX12_meanBy 15 = .ok (.iload_n 1, 1) := by decide +kernel
theorem dX12_meanBy_16 : decode cX12_meanBy 16 = .ok (.iaload, 1) := by decide +kernel
theorem dX12_meanBy_17 : decode cX12_meanBy 17 = .ok (.iload_n 2, 1) := by decide +kernel
theorem dX12_meanBy_18 : decode cX12_meanBy 18 = .ok (.invokevirtual 306, 3) := by decide +kernel
theorem dX12_meanBy_21 : decode cX12_meanBy 21 = .ok (.ireturn, 1) := by decide +kernel
theorem dX12_meanBy_22 : decode cX12_meanBy 22 = .ok (.aload_n 0, 1) := by decide +kernel
theorem dX12_meanBy_23 : decode cX12_meanBy 23 = .ok (.getfield 66, 3) := by decide +kernel
theorem dX12_meanBy_26 : decode cX12_meanBy 26 = .ok (.iload_n 1, 1) := by decide +kernel
theorem dX12_meanBy_27 : decode cX12_meanBy 27 = .ok (.iaload, 1) := by decide +kernel
theorem dX12_meanBy_28 : decode cX12_meanBy 28 = .ok (.iconst 5, 1) := by decide +kernel
theorem dX12_meanBy_29 : decode cX12_meanBy 29 = .ok (.if_icmp .ne 18, 3) := by decide +kernel
theorem dX12_meanBy_32 : decode cX12_meanBy 32 = .ok (.aload_n 0, 1) := by decide +kernel
theorem dX12_meanBy_33 : decode cX12_meanBy 33 = .ok (.iload_n 2, 1) := by decide +kernel
theorem dX12_meanBy_34 : decode cX12_meanBy 34 = .ok (.aload_n 0, 1) := by decide +kernel
theorem dX12_meanBy_35 : decode cX12_meanBy 35 = .ok (.getfield 69, 3) := by decide +kernel
theorem dX12_meanBy_38 : decode cX12_meanBy 38 = .ok (.iload_n 1, 1) := by decide +kernel
theorem dX12_meanBy_39 : decode cX12_meanBy 39 = .ok (.iaload, 1) := by decide +kernel
theorem dX12_meanBy_40 : decode cX12_meanBy 40 = .ok (.isub, 1) := by decide +kernel
theorem dX12_meanBy_41 : decode cX12_meanBy 41 = .ok (.invokevirtual 309, 3) := by decide +kernel
theorem dX12_meanBy_44 : decode cX12_meanBy 44 = .ok (.goto 14, 3) := by decide +kernel
theorem dX12_meanBy_47 : decode cX12_meanBy 47 = .ok (.aload_n 0, 1) := by decide +kernel
theorem dX12_meanBy_48 : decode cX12_meanBy 48 = .ok (.getfield 101, 3) := by decide +kernel
theorem dX12_meanBy_51 : decode cX12_meanBy 51 = .ok (.aload_n 0, 1) := by decide +kernel
theorem dX12_meanBy_52 : decode cX12_meanBy 52 = .ok (.getfield 66, 3) := by decide +kernel
theorem dX12_meanBy_55 : decode cX12_meanBy 55 = .ok (.iload_n 1, 1) := by decide +kernel
theorem dX12_meanBy_56 : decode cX12_meanBy 56 = .ok (.iaload, 1) := by decide +kernel
theorem dX12_meanBy_57 : decode cX12_meanBy 57 = .ok (.iaload, 1) := by decide +kernel
theorem dX12_meanBy_58 : decode cX12_meanBy 58 = .ok (.ireturn, 1) := by decide +kernel
theorem dX12_isTrue_0 : decode cX12_isTrue 0 = .ok (.iconst 0, 1) := by decide +kernel
theorem dX12_isTrue_1 : decode cX12_isTrue 1 = .ok (.istore_n 3, 1) := by decide +kernel
theorem dX12_isTrue_2 : decode cX12_isTrue 2 = .ok (.iload_n 1, 1) := by decide +kernel
theorem dX12_isTrue_3 : decode cX12_isTrue 3 = .ok (.istore 4, 2) := by decide +kernel
theorem dX12_isTrue_5 : decode cX12_isTrue 5 = .ok (.iload 4, 2) := by decide +kernel
theorem dX12_isTrue_7 : decode cX12_isTrue 7 = .ok (.iload_n 2, 1) := by decide +kernel
theorem dX12_isTrue_8 : decode cX12_isTrue 8 = .ok (.if_icmp .ge 237, 3) := by decide +kernel
theorem dX12_isTrue_11 : decode cX12_isTrue 11 = .ok (.aload_n 0, 1) := by decide +kernel
theorem dX12_isTrue_12 : decode cX12_isTrue 12 = .ok (.getfield 81, 3) := by decide +kernel
theorem dX12_isTrue_15 : decode cX12_isTrue 15 = .ok (.iload 4, 2) := by decide +kernel
theorem dX12_isTrue_17 : decode cX12_isTrue 17 = .ok (.iaload, 1) := by decide +kernel
theorem dX12_isTrue_18 : decode cX12_isTrue 18 = .ok (.iconst 2, 1) := by decide +kernel
theorem dX12_isTrue_19 : decode cX12_isTrue 19 = .ok (.if_icmp .gt 107, 3) := by decide +kernel
theorem dX12_isTrue_22 : decode cX12_isTrue 22 = .ok (.aload_n 0, 1) := by decide +kernel
theorem dX12_isTrue_23 : decode cX12_isTrue 23 = .ok (.getfield 104, 3) := by decide +kernel
theorem dX12_isTrue_26 : decode cX12_isTrue 26 = .ok (.aload_n 0, 1) := by decide +kernel
theorem dX12_isTrue_27 : decode cX12_isTrue 27 = .ok (.getfield 84, 3) := by decide +kernel
theorem dX12_isTrue_30 : decode cX12_isTrue 30 = .ok (.iload 4, 2) := by decide +kernel
theorem dX12_isTrue_32 : decode cX12_isTrue 32 = .ok (.iaload, 1) := by decide +kernel
theorem dX12_isTrue_33 : decode cX12_isTrue 33 = .ok (.iaload, 1) := by decide +kernel
theorem dX12_isTrue_34 : decode cX12_isTrue 34 = .ok (.istore 5, 2) := by decide +kernel
theorem dX12_isTrue_36 : decode cX12_isTrue 36 = .ok (.aload_n 0, 1) := by decide +kernel
theorem dX12_isTrue_37 : decode cX12_isTrue 37 = .ok (.getfield 90, 3) := by decide +kernel
theorem dX12_isTrue_40 : decode cX12_isTrue 40 = .ok (.iload_n 3, 1) := by decide +kernel
theorem dX12_isTrue_41 : decode cX12_isTrue 41 = .ok (.aload_n 0, 1) := by decide +kernel
theorem dX12_isTrue_42 : decode cX12_isTrue 42 = .ok (.getfield 81, 3) := by decide +kernel
theorem dX12_isTrue_45 : decode cX12_isTrue 45 = .ok (.iload 4, 2) := by decide +kernel
theorem dX12_isTrue_47 : decode cX12_isTrue 47 = .ok (.iaload, 1) := by decide +kernel
theorem dX12_isTrue_48 : decode cX12_isTrue 48 = .ok (.ifCond .ne 23, 3) := by decide +kernel
theorem dX12_isTrue_51 : decode cX12_isTrue 51 = .ok (.iload 5, 2) := by decide +kernel
theorem dX12_isTrue_53 : decode cX12_isTrue 53 = .ok (.aload_n 0, 1) := by decide +kernel
theorem dX12_isTrue_54 : decode cX12_isTrue 54 = .ok (.getfield 87, 3) := by decide +kernel
theorem dX12_isTrue_57 : decode cX12_isTrue 57 = .ok (.iload 4, 2) := by decide +kernel
theorem dX12_isTrue_59 : decode cX12_isTrue 59 = .ok (.iaload, 1) := by decide +kernel
theorem dX12_isTrue_60 : decode cX12_isTrue 60 = .ok (.if_icmp .ge 7, 3) := by decide +kernel
theorem dX12_isTrue_63 : decode cX12_isTrue 63 = .ok (.iconst 1, 1) := by decide +kernel
theorem dX12_isTrue_64 : decode cX12_isTrue 64 = .ok (.goto 55, 3) := by decide +kernel
theorem dX12_isTrue_67 : decode cX12_isTrue 67 = .ok (.iconst 0, 1) := by decide +kernel
theorem dX12_isTrue_68 : decode cX12_isTrue 68 = .ok (.goto 51, 3) := by decide +kernel
theorem dX12_isTrue_71 : decode cX12_isTrue 71 = .ok (.aload_n 0, 1) := by decide +kernel
theorem dX12_isTrue_72 : decode cX12_isTrue 72 = .ok (.getfield 81, 3) := by decide +kernel
theorem dX12_isTrue_75 : decode cX12_isTrue 75 = .ok (.iload 4, 2) := by decide +kernel
theorem dX12_isTrue_77 : decode cX12_isTrue 77 = .ok (.iaload, 1) := by decide +kernel
theorem dX12_isTrue_78 : decode cX12_isTrue 78 = .ok (.iconst 1, 1) := by decide +kernel
theorem dX12_isTrue_79 : decode cX12_isTrue 79 = .ok (.if_icmp .ne 23, 3) := by decide +kernel
theorem dX12_isTrue_82 : decode cX12_isTrue 82 = .ok (.iload 5, 2) := by decide +kernel
theorem dX12_isTrue_84 : decode cX12_isTrue 84 = .ok (.aload_n 0, 1) := by decide +kernel
theorem dX12_isTrue_85 : decode cX12_isTrue 85 = .ok (.getfield 87, 3) := by decide +kernel
theorem dX12_isTrue_88 : decode cX12_isTrue 88 = .ok (.iload 4, 2) := by decide +kernel
theorem dX12_isTrue_90 : decode cX12_isTrue 90 = .ok (.iaload, 1) := by decide +kernel
theorem dX12_isTrue_91 : decode cX12_isTrue 91 = .ok (.if_icmp .le 7, 3) := by decide +kernel
theorem dX12_isTrue_94 : decode cX12_isTrue 94 = .ok (.iconst 1, 1) := by decide +kernel
theorem dX12_isTrue_95 : decode cX12_isTrue 95 = .ok (.goto 24, 3) := by decide +kernel
theorem dX12_isTrue_98 : decode cX12_isTrue 98 = .ok (.iconst 0, 1) := by decide +kernel
theorem dX12_isTrue_99 : decode cX12_isTrue 99 = .ok (.goto 20, 3) := by decide +kernel
theorem dX12_isTrue_102 : decode cX12_isTrue 102 = .ok (.iload 5, 2) := by decide +kernel
theorem dX12_isTrue_104 : decode cX12_isTrue 104 = .ok (.aload_n 0, 1) := by decide +kernel
theorem dX12_isTrue_105 : decode cX12_isTrue 105 = .ok (.getfield 87, 3) := by decide +kernel
theorem dX12_isTrue_108 : decode cX12_isTrue 108 = .ok (.iload 4, 2) := by decide +kernel
theorem dX12_isTrue_110 : decode cX12_isTrue 110 = .ok (.iaload, 1) := by decide +kernel
theorem dX12_isTrue_111 : decode cX12_isTrue 111 = .ok (.if_icmp .ne 7, 3) := by decide +kernel
theorem dX12_isTrue_114 : decode cX12_isTrue 114 = .ok (.iconst 1, 1) := by decide +kernel
theorem dX12_isTrue_115 : decode cX12_isTrue 115 = .ok (.goto 4, 3) := by decide +kernel
theorem dX12_isTrue_118 : decode cX12_isTrue 118 = .ok (.iconst 0, 1) := by decide +kernel
theorem dX12_isTrue_119 : decode cX12_isTrue 119 = .ok (.bastore, 1) := by decide +kernel
theorem dX12_isTrue_120 : decode cX12_isTrue 120 = .ok (.iinc 3 1, 3) := by decide +kernel
theorem dX12_isTrue_123 : decode cX12_isTrue 123 = .ok (.goto 116, 3) := by decide +kernel
theorem dX12_isTrue_126 : decode cX12_isTrue 126 = .ok (.aload_n 0, 1) := by decide +kernel
theorem dX12_isTrue_127 : decode cX12_isTrue 127 = .ok (.getfield 81, 3) := by decide +kernel
theorem dX12_isTrue_130 : decode cX12_isTrue 130 = .ok (.iload 4, 2) := by decide +kernel
theorem dX12_isTrue_132 : decode cX12_isTrue 132 = .ok (.iaload, 1) := by decide +kernel
theorem dX12_isTrue_133 : decode cX12_isTrue 133 = .ok (.iconst 5, 1) := by decide +kernel
theorem dX12_isTrue_134 : decode cX12_isTrue 134 = .ok (.if_icmp .ne 30, 3) := by decide +kernel
theorem dX12_isTrue_137 : decode cX12_isTrue 137 = .ok (.aload_n 0, 1) := by decide +kernel
theorem dX12_isTrue_138 : decode cX12_isTrue 138 = .ok (.getfield 90, 3) := by decide +kernel
theorem dX12_isTrue_141 : decode cX12_isTrue 141 = .ok (.iload_n 3, 1) := by decide +kernel
theorem dX12_isTrue_142 : decode cX12_isTrue 142 = .ok (.iconst 1, 1) := by decide +kernel
theorem dX12_isTrue_143 : decode cX12_isTrue 143 = .ok (.isub, 1) := by decide +kernel
theorem dX12_isTrue_144 : decode cX12_isTrue 144 = .ok (.aload_n 0, 1) := by decide +kernel
theorem dX12_isTrue_145 : decode cX12_isTrue 145 = .ok (.getfield 90, 3) := by decide +kernel
theorem dX12_isTrue_148 : decode cX12_isTrue 148 = .ok (.iload_n 3, 1) := by decide +kernel
theorem dX12_isTrue_149 : decode cX12_isTrue 149 = .ok (.iconst 1, 1) := by decide +kernel
theorem dX12_isTrue_150 : decode cX12_isTrue 150 = .ok (.isub, 1) := by decide +kernel
theorem dX12_isTrue_151 : decode cX12_isTrue 151 = .ok (.baload, 1) := by decide +kernel
theorem dX12_isTrue_152 : decode cX12_isTrue 152 = .ok (.ifCond .ne 7, 3) := by decide +kernel
theorem dX12_isTrue_155 : decode cX12_isTrue 155 = .ok (.iconst 1, 1) := by decide +kernel
theorem dX12_isTrue_156 : decode cX12_isTrue 156 = .ok (.goto 4, 3) := by decide +kernel
theorem dX12_isTrue_159 : decode cX12_isTrue 159 = .ok (.iconst 0, 1) := by decide +kernel
theorem dX12_isTrue_160 : decode cX12_isTrue 160 = .ok (.bastore, 1) := by decide +kernel
theorem dX12_isTrue_161 : decode cX12_isTrue 161 = .ok (.goto 78, 3) := by decide +kernel
theorem dX12_isTrue_164 : decode cX12_isTrue 164 = .ok (.iinc 3 (-1), 3) := by decide +kernel
theorem dX12_isTrue_167 : decode cX12_isTrue 167 = .ok (.aload_n 0, 1) := by decide +kernel
theorem dX12_isTrue_168 : decode cX12_isTrue 168 = .ok (.getfield 90, 3) := by decide +kernel
theorem dX12_isTrue_171 : decode cX12_isTrue 171 = .ok (.iload_n 3, 1) := by decide +kernel
theorem dX12_isTrue_172 : decode cX12_isTrue 172 = .ok (.iconst 1, 1) := by decide +kernel
theorem dX12_isTrue_173 : decode cX12_isTrue 173 = .ok (.isub, 1) := by decide +kernel
theorem dX12_isTrue_174 : decode cX12_isTrue 174 = .ok (.aload_n 0, 1) := by decide +kernel
theorem dX12_isTrue_175 : decode cX12_isTrue 175 = .ok (.getfield 81, 3) := by decide +kernel
theorem dX12_isTrue_178 : decode cX12_isTrue 178 = .ok (.iload 4, 2) := by decide +kernel
theorem dX12_isTrue_180 : decode cX12_isTrue 180 = .ok (.iaload, 1) := by decide +kernel
theorem dX12_isTrue_181 : decode cX12_isTrue 181 = .ok (.iconst 3, 1) := by decide +kernel
theorem dX12_isTrue_182 : decode cX12_isTrue 182 = .ok (.if_icmp .ne 31, 3) := by decide +kernel
theorem dX12_isTrue_185 : decode cX12_isTrue 185 = .ok (.aload_n 0, 1) := by decide +kernel
theorem dX12_isTrue_186 : decode cX12_isTrue 186 = .ok (.getfield 90, 3) := by decide +kernel
theorem dX12_isTrue_189 : decode cX12_isTrue 189 = .ok (.iload_n 3, 1) := by decide +kernel
theorem dX12_isTrue_190 : decode cX12_isTrue 190 = .ok (.iconst 1, 1) := by decide +kernel
theorem dX12_isTrue_191 : decode cX12_isTrue 191 = .ok (.isub, 1) := by decide +kernel
theorem dX12_isTrue_192 : decode cX12_isTrue 192 = .ok (.baload, 1) := by decide +kernel
theorem dX12_isTrue_193 : decode cX12_isTrue 193 = .ok (.ifCond .ne 12, 3) := by decide +kernel
theorem dX12_isTrue_196 : decode cX12_isTrue 196 = .ok (.aload_n 0, 1) := by decide +kernel
theorem dX12_isTrue_197 : decode cX12_isTrue 197 = .ok (.getfield 90, 3) := by decide +kernel
theorem dX12_isTrue_200 : decode cX12_isTrue 200 = .ok (.iload_n 3, 1) := by decide +kernel
theorem dX12_isTrue_201 : decode cX12_isTrue 201 = .ok (.baload, 1) := by decide +kernel
theorem dX12_isTrue_202 : decode cX12_isTrue 202 = .ok (.ifCond .eq 7, 3) := by decide +kernel
theorem dX12_isTrue_205 : decode cX12_isTrue 205 = .ok (.iconst 1, 1) := by decide +kernel
theorem dX12_isTrue_206 : decode cX12_isTrue 206 = .ok (.goto 32, 3) := by decide +kernel
theorem dX12_isTrue_209 : decode cX12_isTrue 209 = .ok (.iconst 0, 1) := by decide +kernel
theorem dX12_isTrue_210 : decode cX12_isTrue 210 = .ok (.goto 28, 3) := by decide +kernel
theorem dX12_isTrue_213 : decode cX12_isTrue 213 = .ok (.aload_n 0, 1) := by decide +kernel
theorem dX12_isTrue_214 : decode cX12_isTrue 214 = .ok (.getfield 90, 3) := by decide +kernel
theorem dX12_isTrue_217 : decode cX12_isTrue 217 = .ok (.iload_n 3, 1) := by decide +kernel
theorem dX12_isTrue_218 : decode cX12_isTrue 218 = .ok (.iconst 1, 1) := by decide +kernel
theorem dX12_isTrue_219 : decode cX12_isTrue 219 = .ok (.isub, 1) := by decide +kernel
theorem dX12_isTrue_220 : decode cX12_isTrue 220 = .ok (.baload, 1) := by decide +kernel
theorem dX12_isTrue_221 : decode cX12_isTrue 221 = .ok (.ifCond .eq 16, 3) := by decide +kernel
theorem dX12_isTrue_224 : decode cX12_isTrue 224 = .ok (.aload_n 0, 1) := by decide +kernel
theorem dX12_isTrue_225 : decode cX12_isTrue 225 = .ok (.getfield 90, 3) := by decide +kernel
theorem dX12_isTrue_228 : decode cX12_isTrue 228 = .ok (.iload_n 3, 1) := by decide +kernel
theorem dX12_isTrue_229 : decode cX12_isTrue 229 = .ok (.baload, 1) := by decide +kernel
theorem dX12_isTrue_230 : decode cX12_isTrue 230 = .ok (.ifCond .eq 7, 3) := by decide +kernel
theorem dX12_isTrue_233 : decode cX12_isTrue 233 = .ok (.iconst 1, 1) := by decide +kernel
theorem dX12_isTrue_234 : decode cX12_isTrue 234 = .ok (.goto 4, 3) := by decide +kernel
theorem dX12_isTrue_237 : decode cX12_isTrue 237 = .ok (.iconst 0, 1) := by decide +kernel
theorem dX12_isTrue_238 : decode cX12_isTrue 238 = .ok (.bastore, 1) := by decide +kernel
theorem dX12_isTrue_239 : decode cX12_isTrue 239 = .ok (.iinc 4 1, 3) := by decide +kernel
theorem dX12_isTrue_242 : decode cX12_isTrue 242 = .ok (.goto (-237), 3) := by decide +kernel
theorem dX12_isTrue_245 : decode cX12_isTrue 245 = .ok (.aload_n 0, 1) := by decide +kernel
theorem dX12_isTrue_246 : decode cX12_isTrue 246 = .ok (.getfield 90, 3) := by decide +kernel
theorem dX12_isTrue_249 : decode cX12_isTrue 249 = .ok (.iconst 0, 1) := by decide +kernel
theorem dX12_isTrue_250 : decode cX12_isTrue 250 = .ok (.baload, 1) := by decide +kernel
theorem dX12_isTrue_251 : decode cX12_isTrue 251 = .ok (.ireturn, 1) := by decide +kernel
theorem dX12_wants_0 : decode cX12_wants 0 = .ok (.aload_n 0, 1) := by decide +kernel
theorem dX12_wants_1 : decode cX12_wants 1 = .ok (.iload_n 2, 1) := by decide +kernel
theorem dX12_wants_2 : decode cX12_wants 2 = .ok (.iload_n 3, 1) := by decide +kernel
theorem dX12_wants_3 : decode cX12_wants 3 = .ok (.invokevirtual 302, 3) := by decide +kernel
theorem dX12_wants_6 : decode cX12_wants 6 = .ok (.istore 7, 2) := by decide +kernel
theorem dX12_wants_8 : decode cX12_wants 8 = .ok (.iconst 0, 1) := by decide +kernel
theorem dX12_wants_9 : decode cX12_wants 9 = .ok (.istore 8, 2) := by decide +kernel
theorem dX12_wants_11 : decode cX12_wants 11 = .ok (.iload 8, 2) := by decide +kernel
theorem dX12_wants_13 : decode cX12_wants 13 = .ok (.iconst 4, 1) := by decide +kernel
theorem dX12_wants_14 : decode cX12_wants 14 = .ok (.if_icmp .ge 24, 3) := by decide +kernel
theorem dX12_wants_17 : decode cX12_wants 17 = .ok (.aload_n 0, 1) := by decide +kernel
theorem dX12_wants_18 : decode cX12_wants 18 = .ok (.getfield 101, 3) := by decide +kernel
theorem dX12_wants_21 : decode cX12_wants 21 = .ok (.iload 8, 2) := by decide +kernel
theorem dX12_wants_23 : decode cX12_wants 23 = .ok (.aload_n 0, 1) := by decide +kernel
theorem dX12_wants_24 : decode cX12_wants 24 = .ok (.iload_n 2, 1) := by decide +kernel
theorem dX12_wants_25 : decode cX12_wants 25 = .ok (.iload 8, 2) := by decide +kernel
theorem dX12_wants_27 : decode cX12_wants 27 = .ok (.iload_n 3, 1) := by decide +kernel
theorem dX12_wants_28 : decode cX12_wants 28 = .ok (.invokevirtual 313, 3) := by decide +kernel
theorem dX12_wants_31 : decode cX12_wants 31 = .ok (.iastore, 1) := by decide +kernel
theorem dX12_wants_32 : decode cX12_wants 32 = .ok (.iinc 8 1, 3) := by decide +kernel
theorem dX12_wants_35 : decode cX12_wants 35 = .ok (.goto (-24), 3) := by decide +kernel
theorem dX12_wants_38 : decode cX12_wants 38 = .ok (.aload_n 0, 1) := by decide +kernel
theorem dX12_wants_39 : decode cX12_wants 39 = .ok (.getfield 104, 3) := by decide +kernel
theorem dX12_wants_42 : decode cX12_wants 42 = .ok (.iconst 0, 1) := by decide +kernel
theorem dX12_wants_43 : decode cX12_wants 43 = .ok (.iload_n 3, 1) := by decide +kernel
theorem dX12_wants_44 : decode cX12_wants 44 = .ok (.iconst 1, 1) := by decide +kernel
theorem dX12_wants_45 : decode cX12_wants 45 = .ok (.iadd, 1) := by decide +kernel
theorem dX12_wants_46 : decode cX12_wants 46 = .ok (.iastore, 1) := by decide +kernel
theorem dX12_wants_47 : decode cX12_wants 47 = .ok (.aload_n 0, 1) := by decide +kernel
theorem dX12_wants_48 : decode cX12_wants 48 = .ok (.getfield 104, 3) := by decide +kernel
theorem dX12_wants_51 : decode cX12_wants 51 = .ok (.iconst 1, 1) := by decide +kernel
theorem dX12_wants_52 : decode cX12_wants 52 = .ok (.iload 7, 2) := by decide +kernel
theorem dX12_wants_54 : decode cX12_wants 54 = .ok (.iastore, 1) := by decide +kernel
theorem dX12_wants_55 : decode cX12_wants 55 = .ok (.aload_n 0, 1) := by decide +kernel
theorem dX12_wants_56 : decode cX12_wants 56 = .ok (.getfield 104, 3) := by decide +kernel
theorem dX12_wants_59 : decode cX12_wants 59 = .ok (.iconst 2, 1) := by decide +kernel
theorem dX12_wants_60 : decode cX12_wants 60 = .ok (.aload_n 0, 1) := by decide +kernel
theorem dX12_wants_61 : decode cX12_wants 61 = .ok (.getfield 17, 3) := by decide +kernel
theorem dX12_wants_64 : decode cX12_wants 64 = .ok (.iload_n 2, 1) := by decide +kernel
theorem dX12_wants_65 : decode cX12_wants 65 = .ok (.iaload, 1) := by decide +kernel
theorem dX12_wants_66 : decode cX12_wants 66 = .ok (.iastore, 1) := by decide +kernel
theorem dX12_wants_67 : decode cX12_wants 67 = .ok (.aload_n 0, 1) := by decide +kernel
theorem dX12_wants_68 : decode cX12_wants 68 = .ok (.getfield 104, 3) := by decide +kernel
theorem dX12_wants_71 : decode cX12_wants 71 = .ok (.iconst 3, 1) := by decide +kernel
theorem dX12_wants_72 : decode cX12_wants 72 = .ok (.iload 5, 2) := by decide +kernel
theorem dX12_wants_74 : decode cX12_wants 74 = .ok (.iastore, 1) := by decide +kernel
theorem dX12_wants_75 : decode cX12_wants 75 = .ok (.aload_n 0, 1) := by decide +kernel
theorem dX12_wants_76 : decode cX12_wants 76 = .ok (.getfield 104, 3) := by decide +kernel
theorem dX12_wants_79 : decode cX12_wants 79 = .ok (.iconst 4, 1) := by decide +kernel
theorem dX12_wants_80 : decode cX12_wants 80 = .ok (.aload_n 0, 1) := by decide +kernel
theorem dX12_wants_81 : decode cX12_wants 81 = .ok (.getfield 13, 3) := by decide +kernel
theorem dX12_wants_84 : decode cX12_wants 84 = .ok (.iload_n 2, 1) := by decide +kernel
theorem dX12_wants_85 : decode cX12_wants 85 = .ok (.iaload, 1) := by decide +kernel
theorem dX12_wants_86 : decode cX12_wants 86 = .ok (.iastore, 1) := by decide +kernel
theorem dX12_wants_87 : decode cX12_wants 87 = .ok (.aload_n 0, 1) := by decide +kernel
theorem dX12_wants_88 : decode cX12_wants 88 = .ok (.getfield 104, 3) := by decide +kernel
theorem dX12_wants_91 : decode cX12_wants 91 = .ok (.iconst 5, 1) := by decide +kernel
theorem dX12_wants_92 : decode cX12_wants 92 = .ok (.aload_n 0, 1) := by decide +kernel
theorem dX12_wants_93 : decode cX12_wants 93 = .ok (.iload_n 3, 1) := by decide +kernel
theorem dX12_wants_94 : decode cX12_wants 94 = .ok (.invokevirtual 317, 3) := by decide +kernel
theorem dX12_wants_97 : decode cX12_wants 97 = .ok (.iastore, 1) := by decide +kernel
theorem dX12_wants_98 : decode cX12_wants 98 = .ok (.aload_n 0, 1) := by decide +kernel
theorem dX12_wants_99 : decode cX12_wants 99 = .ok (.getfield 104, 3) := by decide +kernel
theorem dX12_wants_102 : decode cX12_wants 102 = .ok (.bipush 6, 2) := by decide +kernel
theorem dX12_wants_104 : decode cX12_wants 104 = .ok (.iload 4, 2) := by decide +kernel
theorem dX12_wants_106 : decode cX12_wants 106 = .ok (.iastore, 1) := by decide +kernel
theorem dX12_wants_107 : decode cX12_wants 107 = .ok (.aload_n 0, 1) := by decide +kernel
theorem dX12_wants_108 : decode cX12_wants 108 = .ok (.getfield 104, 3) := by decide +kernel
theorem dX12_wants_111 : decode cX12_wants 111 = .ok (.bipush 7, 2) := by decide +kernel
theorem dX12_wants_113 : decode cX12_wants 113 = .ok (.iload 6, 2) := by decide +kernel
theorem dX12_wants_115 : decode cX12_wants 115 = .ok (.iastore, 1) := by decide +kernel
theorem dX12_wants_116 : decode cX12_wants 116 = .ok (.iconst 0, 1) := by decide +kernel
theorem dX12_wants_117 : decode cX12_wants 117 = .ok (.istore 8, 2) := by decide +kernel
theorem dX12_wants_119 : decode cX12_wants 119 = .ok (.iload 8, 2) := by decide +kernel
theorem dX12_wants_121 : decode cX12_wants 121 = .ok (.iconst 4, 1) := by decide +kernel
theorem dX12_wants_122 : decode cX12_wants 122 = .ok (.if_icmp .ge 30, 3) := by decide +kernel
theorem dX12_wants_125 : decode cX12_wants 125 = .ok (.aload_n 0, 1) := by decide +kernel
theorem dX12_wants_126 : decode cX12_wants 126 = .ok (.getfield 104, 3) := by decide +kernel
theorem dX12_wants_129 : decode cX12_wants 129 = .ok (.bipush 8, 2) := by decide +kernel
theorem dX12_wants_131 : decode cX12_wants 131 = .ok (.iload 8, 2) := by decide +kernel
theorem dX12_wants_133 : decode cX12_wants 133 = .ok (.iadd, 1) := by decide +kernel
theorem dX12_wants_134 : decode cX12_wants 134 = .ok (.iconst 0, 1) := by decide +kernel
theorem dX12_wants_135 : decode cX12_wants 135 = .ok (.aload_n 0, 1) := by decide +kernel
theorem dX12_wants_136 : decode cX12_wants 136 = .ok (.getfield 101, 3) := by decide +kernel
theorem dX12_wants_139 : decode cX12_wants 139 = .ok (.iload 8, 2) := by decide +kernel
theorem dX12_wants_141 : decode cX12_wants 141 = .ok (.iaload, 1) := by decide +kernel
theorem dX12_wants_142 : decode cX12_wants 142 = .ok (.invokestatic 320, 3) := by decide +kernel
theorem dX12_wants_145 : decode cX12_wants 145 = .ok (.iastore, 1) := by decide +kernel
theorem dX12_wants_146 : decode cX12_wants 146 = .ok (.iinc 8 1, 3) := by decide +kernel
theorem dX12_wants_149 : decode cX12_wants 149 = .ok (.goto (-30), 3) := by decide +kernel
theorem dX12_wants_152 : decode cX12_wants 152 = .ok (.aload_n 0, 1) := by decide +kernel
theorem dX12_wants_153 : decode cX12_wants 153 = .ok (.iconst 2, 1) := by decide +kernel
theorem dX12_wants_154 : decode cX12_wants 154 = .ok (.putfield 325, 3) := by decide +kernel
theorem dX12_wants_157 : decode cX12_wants 157 = .ok (.bipush 16, 2) := by decide +kernel
theorem dX12_wants_159 : decode cX12_wants 159 = .ok (.iload_n 1, 1) := by decide +kernel
theorem dX12_wants_160 : decode cX12_wants 160 = .ok (.imul, 1) := by decide +kernel
theorem dX12_wants_161 : decode cX12_wants 161 = .ok (.istore 8, 2) := by decide +kernel
theorem dX12_wants_163 : decode cX12_wants 163 = .ok (.iload 8, 2) := by decide +kernel
theorem dX12_wants_165 : decode cX12_wants 165 = .ok (.bipush 16, 2) := by decide +kernel
theorem dX12_wants_167 : decode cX12_wants 167 = .ok (.iload_n 1, 1) := by decide +kernel
theorem dX12_wants_168 : decode cX12_wants 168 = .ok (.imul, 1) := by decide +kernel
theorem dX12_wants_169 : decode cX12_wants 169 = .ok (.aload_n 0, 1) := by decide +kernel
theorem dX12_wants_170 : decode cX12_wants 170 = .ok (.getfield 60, 3) := by decide +kernel
theorem dX12_wants_173 : decode cX12_wants 173 = .ok (.iload_n 1, 1) := by decide +kernel
theorem dX12_wants_174 : decode cX12_wants 174 = .ok (.iaload, 1) := by decide +kernel
theorem dX12_wants_175 : decode cX12_wants 175 = .ok (.iadd, 1) := by decide +kernel
theorem dX12_wants_176 : decode cX12_wants 176 = .ok (.if_icmp .ge 205, 3) := by decide +kernel
theorem dX12_wants_179 : decode cX12_wants 179 = .ok (.aload_n 0, 1) := by decide +kernel
theorem dX12_wants_180 : decode cX12_wants 180 = .ok (.getfield 75, 3) := by decide +kernel
theorem dX12_wants_183 : decode cX12_wants 183 = .ok (.iload 8, 2) := by decide +kernel
theorem dX12_wants_185 : decode cX12_wants 185 = .ok (.iaload, 1) := by decide +kernel
theorem dX12_wants_186 : decode cX12_wants 186 = .ok (.aload_n 0, 1) := by decide +kernel
theorem dX12_wants_187 : decode cX12_wants 187 = .ok (.getfield 78, 3) := by decide +kernel
theorem dX12_wants_190 : decode cX12_wants 190 = .ok (.iload 8, 2) := by decide +kernel
theorem dX12_wants_192 : decode cX12_wants 192 = .ok (.iaload, 1) := by decide +kernel
theorem dX12_wants_193 : decode cX12_wants 193 = .ok (.if_icmp .ge 27, 3) := by decide +kernel
theorem dX12_wants_196 : decode cX12_wants 196 = .ok (.aload_n 0, 1) := by decide +kernel
theorem dX12_wants_197 : decode cX12_wants 197 = .ok (.aload_n 0, 1) := by decide +kernel
theorem dX12_wants_198 : decode cX12_wants 198 = .ok (.getfield 75, 3) := by decide +kernel
theorem dX12_wants_201 : decode cX12_wants 201 = .ok (.iload 8, 2) := by decide +kernel
theorem dX12_wants_203 : decode cX12_wants 203 = .ok (.iaload, 1) := by decide +kernel
theorem dX12_wants_204 : decode cX12_wants 204 = .ok (.aload_n 0, 1) := by decide +kernel
theorem dX12_wants_205 : decode cX12_wants 205 = .ok (.getfield 78, 3) := by decide +kernel
theorem dX12_wants_208 : decode cX12_wants 208 = .ok (.iload 8, 2) := by decide +kernel
theorem dX12_wants_210 : decode cX12_wants 210 = .ok (.iaload, 1) := by decide +kernel
theorem dX12_wants_211 : decode cX12_wants 211 = .ok (.invokevirtual 328, 3) := by decide +kernel
theorem dX12_wants_214 : decode cX12_wants 214 = .ok (.ifCond .ne 6, 3) := by decide +kernel
theorem dX12_wants_217 : decode cX12_wants 217 = .ok (.goto 158, 3) := by decide +kernel
theorem dX12_wants_220 : decode cX12_wants 220 = .ok (.aload_n 0, 1) := by decide +kernel
theorem dX12_wants_221 : decode cX12_wants 221 = .ok (.getfield 63, 3) := by decide +kernel
theorem dX12_wants_224 : decode cX12_wants 224 = .ok (.iload 8, 2) := by decide +kernel
theorem dX12_wants_226 : decode cX12_wants 226 = .ok (.iaload, 1) := by decide +kernel
theorem dX12_wants_227 : decode cX12_wants 227 = .ok (.iconst 2, 1) := by decide +kernel
theorem dX12_wants_228 : decode cX12_wants 228 = .ok (.if_icmp .ne 6, 3) := by decide +kernel
theorem dX12_wants_231 : decode cX12_wants 231 = .ok (.iload 7, 2) := by decide +kernel
theorem dX12_wants_233 : decode cX12_wants 233 = .ok (.ireturn, 1) := by decide +kernel
theorem dX12_wants_234 : decode cX12_wants 234 = .ok (.aload_n 0, 1) := by decide +kernel
theorem dX12_wants_235 : decode cX12_wants 235 = .ok (.iload 8, 2) := by decide +kernel
theorem dX12_wants_237 : decode cX12_wants 237 = .ok (.iload_n 3, 1) := by decide +kernel
theorem dX12_wants_238 : decode cX12_wants 238 = .ok (.invokevirtual 331, 3) := by decide +kernel
theorem dX12_wants_241 : decode cX12_wants 241 = .ok (.istore 9, 2) := by decide +kernel
theorem dX12_wants_243 : decode cX12_wants 243 = .ok (.iload 9, 2) := by decide +kernel
theorem dX12_wants_245 : decode cX12_wants 245 = .ok (.iconst (-1), 1) := by decide +kernel
theorem dX12_wants_246 : decode cX12_wants 246 = .ok (.if_icmp .ne 6, 3) := by decide +kernel
theorem dX12_wants_249 : decode cX12_wants 249 = .ok (.goto 126, 3) := by decide +kernel
theorem dX12_wants_252 : decode cX12_wants 252 = .ok (.aload_n 0, 1) := by decide +kernel
theorem dX12_wants_253 : decode cX12_wants 253 = .ok (.aload_n 0, 1) := by decide +kernel
theorem dX12_wants_254 : decode cX12_wants 254 = .ok (.getfield 63, 3) := by decide +kernel
theorem dX12_wants_257 : decode cX12_wants 257 = .ok (.iload 8, 2) := by decide +kernel
theorem dX12_wants_259 : decode cX12_wants 259 = .ok (.iaload, 1) := by decide +kernel
theorem dX12_wants_260 : decode cX12_wants 260 = .ok (.putfield 325, 3) := by decide +kernel
theorem dX12_wants_263 : decode cX12_wants 263 = .ok (.aload_n 0, 1) := by decide +kernel
theorem dX12_wants_264 : decode cX12_wants 264 = .ok (.getfield 63, 3) := by decide +kernel
theorem dX12_wants_267 : decode cX12_wants 267 = .ok (.iload 8, 2) := by decide +kernel
theorem dX12_wants_269 : decode cX12_wants 269 = .ok (.iaload, 1) := by decide +kernel
theorem dX12_wants_270 : decode cX12_wants 270 = .ok (.ifCond .ne 44, 3) := by decide +kernel
theorem dX12_wants_273 : decode cX12_wants 273 = .ok (.iload 7, 2) := by decide +kernel
theorem dX12_wants_275 : decode cX12_wants 275 = .ok (.iload 9, 2) := by decide +kernel
theorem dX12_wants_277 : decode cX12_wants 277 = .ok (.if_icmp .ge 21, 3) := by decide +kernel
theorem dX12_wants_280 : decode cX12_wants 280 = .ok (.iload 9, 2) := by decide +kernel
theorem dX12_wants_282 : decode cX12_wants 282 = .ok (.iload 7, 2) := by decide +kernel
theorem dX12_wants_284 : decode cX12_wants 284 = .ok (.aload_n 0, 1) := by decide +kernel
theorem dX12_wants_285 : decode cX12_wants 285 = .ok (.getfield 72, 3) := by decide +kernel
theorem dX12_wants_288 : decode cX12_wants 288 = .ok (.iload 8, 2) := by decide +kernel
theorem dX12_wants_290 : decode cX12_wants 290 = .ok (.iaload, 1) := by decide +kernel
theorem dX12_wants_291 : decode cX12_wants 291 = .ok (.iadd, 1) := by decide +kernel
theorem dX12_wants_292 : decode cX12_wants 292 = .ok (.invokestatic 334, 3) := by decide +kernel
theorem dX12_wants_295 : decode cX12_wants 295 = .ok (.goto 18, 3) := by decide +kernel
theorem dX12_wants_298 : decode cX12_wants 298 = .ok (.iload 9, 2) := by decide +kernel
theorem dX12_wants_300 : decode cX12_wants 300 = .ok (.iload 7, 2) := by decide +kernel
theorem dX12_wants_302 : decode cX12_wants 302 = .ok (.aload_n 0, 1) := by decide +kernel
theorem dX12_wants_303 : decode cX12_wants 303 = .ok (.getfield 72, 3) := by decide +kernel
theorem dX12_wants_306 : decode cX12_wants 306 = .ok (.iload 8, 2) := by decide +kernel
theorem dX12_wants_308 : decode cX12_wants 308 = .ok (.iaload, 1) := by decide +kernel
theorem dX12_wants_309 : decode cX12_wants 309 = .ok (.isub, 1) := by decide +kernel
theorem dX12_wants_310 : decode cX12_wants 310 = .ok (.invokestatic 320, 3) := by decide +kernel
theorem dX12_wants_313 : decode cX12_wants 313 = .ok (.ireturn, 1) := by decide +kernel
theorem dX12_wants_314 : decode cX12_wants 314 = .ok (.iload 7, 2) := by decide +kernel
theorem dX12_wants_316 : decode cX12_wants 316 = .ok (.iload 9, 2) := by decide +kernel
theorem dX12_wants_318 : decode cX12_wants 318 = .ok (.isub, 1) := by decide +kernel
theorem dX12_wants_319 : decode cX12_wants 319 = .ok (.invokestatic 337, 3) := by decide +kernel
theorem dX12_wants_322 : decode cX12_wants 322 = .ok (.aload_n 0, 1) := by decide +kernel
theorem dX12_wants_323 : decode cX12_wants 323 = .ok (.getfield 72, 3) := by decide +kernel
theorem dX12_wants_326 : decode cX12_wants 326 = .ok (.iload 8, 2) := by decide +kernel
theorem dX12_wants_328 : decode cX12_wants 328 = .ok (.iaload, 1) := by decide +kernel
theorem dX12_wants_329 : decode cX12_wants 329 = .ok (.if_icmp .lt 6, 3) := by decide +kernel
theorem dX12_wants_332 : decode cX12_wants 332 = .ok (.iload 7, 2) := by decide +kernel
theorem dX12_wants_334 : decode cX12_wants 334 = .ok (.ireturn, 1) := by decide +kernel
theorem dX12_wants_335 : decode cX12_wants 335 = .ok (.iload 7, 2) := by decide +kernel
theorem dX12_wants_337 : decode cX12_wants 337 = .ok (.iload 9, 2) := by decide +kernel
theorem dX12_wants_339 : decode cX12_wants 339 = .ok (.if_icmp .lt 21, 3) := by decide +kernel
theorem dX12_wants_342 : decode cX12_wants 342 = .ok (.bipush 60, 2) := by decide +kernel
theorem dX12_wants_344 : decode cX12_wants 344 = .ok (.iload 9, 2) := by decide +kernel
theorem dX12_wants_346 : decode cX12_wants 346 = .ok (.aload_n 0, 1) := by decide +kernel
theorem dX12_wants_347 : decode cX12_wants 347 = .ok (.getfield 72, 3) := by decide +kernel
theorem dX12_wants_350 : decode cX12_wants 350 = .ok (.iload 8, 2) := by decide +kernel
theorem dX12_wants_352 : decode cX12_wants 352 = .ok (.iaload, 1) := by decide +kernel
theorem dX12_wants_353 : decode cX12_wants 353 = .ok (.iadd, 1) := by decide +kernel
theorem dX12_wants_354 : decode cX12_wants 354 = .ok (.invokestatic 334, 3) := by decide +kernel
theorem dX12_wants_357 : decode cX12_wants 357 = .ok (.goto 17, 3) := by decide +kernel
theorem dX12_wants_360 : decode cX12_wants 360 = .ok (.iconst 0, 1) := by decide +kernel
theorem dX12_wants_361 : decode cX12_wants 361 = .ok (.iload 9, 2) := by decide +kernel
theorem dX12_wants_363 : decode cX12_wants 363 = .ok (.aload_n 0, 1) := by decide +kernel
theorem dX12_wants_364 : decode cX12_wants 364 = .ok (.getfield 72, 3) := by decide +kernel
theorem dX12_wants_367 : decode cX12_wants 367 = .ok (.iload 8, 2) := by decide +kernel
theorem dX12_wants_369 : decode cX12_wants 369 = .ok (.iaload, 1) := by decide +kernel
theorem dX12_wants_370 : decode cX12_wants 370 = .ok (.isub, 1) := by decide +kernel
theorem dX12_wants_371 : decode cX12_wants 371 = .ok (.invokestatic 320, 3) := by decide +kernel
theorem dX12_wants_374 : decode cX12_wants 374 = .ok (.ireturn, 1) := by decide +kernel
theorem dX12_wants_375 : decode cX12_wants 375 = .ok (.iinc 8 1, 3) := by decide +kernel
theorem dX12_wants_378 : decode cX12_wants 378 = .ok (.goto (-215), 3) := by decide +kernel
theorem dX12_wants_381 : decode cX12_wants 381 = .ok (.iload 7, 2) := by decide +kernel
theorem dX12_wants_383 : decode cX12_wants 383 = .ok (.ireturn, 1) := by decide +kernel
theorem dX12_begins_0 : decode cX12_begins 0 = .ok (.aload_n 0, 1) := by decide +kernel
theorem dX12_begins_1 : decode cX12_begins 1 = .ok (.getfield 50, 3) := by decide +kernel
theorem dX12_begins_4 : decode cX12_begins 4 = .ok (.aload_n 0, 1) := by decide +kernel
theorem dX12_begins_5 : decode cX12_begins 5 = .ok (.getfield 161, 3) := by decide +kernel
theorem dX12_begins_8 : decode cX12_begins 8 = .ok (.aload_n 0, 1) := by decide +kernel
theorem dX12_begins_9 : decode cX12_begins 9 = .ok (.getfield 164, 3) := by decide +kernel
theorem dX12_begins_12 : decode cX12_begins 12 = .ok (.iastore, 1) := by decide +kernel
theorem dX12_begins_13 : decode cX12_begins 13 = .ok (.iconst 0, 1) := by decide +kernel
theorem dX12_begins_14 : decode cX12_begins 14 = .ok (.istore_n 1, 1) := by decide +kernel
theorem dX12_begins_15 : decode cX12_begins 15 = .ok (.iload_n 1, 1) := by decide +kernel
theorem dX12_begins_16 : decode cX12_begins 16 = .ok (.iconst 4, 1) := by decide +kernel
theorem dX12_begins_17 : decode cX12_begins 17 = .ok (.if_icmp .ge 28, 3) := by decide +kernel
theorem dX12_begins_20 : decode cX12_begins 20 = .ok (.aload_n 0, 1) := by decide +kernel
theorem dX12_begins_21 : decode cX12_begins 21 = .ok (.getfield 47, 3) := by decide +kernel
theorem dX12_begins_24 : decode cX12_begins 24 = .ok (.iconst 4, 1) := by decide +kernel
theorem dX12_begins_25 : decode cX12_begins 25 = .ok (.aload_n 0, 1) := by decide +kernel
theorem dX12_begins_26 : decode cX12_begins 26 = .ok (.getfield 161, 3) := by decide +kernel
theorem dX12_begins_29 : decode cX12_begins 29 = .ok (.imul, 1) := by decide +kernel
theorem dX12_begins_30 : decode cX12_begins 30 = .ok (.iload_n 1, 1) := by decide +kernel
theorem dX12_begins_31 : decode cX12_begins 31 = .ok (.iadd, 1) := by decide +kernel
theorem dX12_begins_32 : decode cX12_begins 32 = .ok (.aload_n 0, 1) := by decide +kernel
theorem dX12_begins_33 : decode cX12_begins 33 = .ok (.getfield 29, 3) := by decide +kernel
theorem dX12_begins_36 : decode cX12_begins 36 = .ok (.iload_n 1, 1) := by decide +kernel
theorem dX12_begins_37 : decode cX12_begins 37 = .ok (.iaload, 1) := by decide +kernel
theorem dX12_begins_38 : decode cX12_begins 38 = .ok (.iastore, 1) := by decide +kernel
theorem dX12_begins_39 : decode cX12_begins 39 = .ok (.iinc 1 1, 3) := by decide +kernel
theorem dX12_begins_42 : decode cX12_begins 42 = .ok (.goto (-27), 3) := by decide +kernel
theorem dX12_begins_45 : decode cX12_begins 45 = .ok (.aload_n 0, 1) := by decide +kernel
theorem dX12_begins_46 : decode cX12_begins 46 = .ok (.dup, 1) := by decide +kernel
theorem dX12_begins_47 : decode cX12_begins 47 = .ok (.getfield 161, 3) := by decide +kernel
theorem dX12_begins_50 : decode cX12_begins 50 = .ok (.iconst 1, 1) := by decide +kernel
theorem dX12_begins_51 : decode cX12_begins 51 = .ok (.iadd, 1) := by decide +kernel
theorem dX12_begins_52 : decode cX12_begins 52 = .ok (.putfield 161, 3) := by decide +kernel
theorem dX12_begins_55 : decode cX12_begins 55 = .ok (.return_, 1) := by decide +kernel
theorem dX12_counts_0 : decode cX12_counts 0 = .ok (.aload_n 0, 1) := by decide +kernel
theorem dX12_counts_1 : decode cX12_counts 1 = .ok (.getfield 32, 3) := by decide +kernel
theorem dX12_counts_4 : decode cX12_counts 4 = .ok (.bipush 6, 2) := by decide +kernel
theorem dX12_counts_6 : decode cX12_counts 6 = .ok (.iload_n 1, 1) := by decide +kernel
theorem dX12_counts_7 : decode cX12_counts 7 = .ok (.imul, 1) := by decide +kernel
theorem dX12_counts_8 : decode cX12_counts 8 = .ok (.iload_n 2, 1) := by decide +kernel
theorem dX12_counts_9 : decode cX12_counts 9 = .ok (.iadd, 1) := by decide +kernel
theorem dX12_counts_10 : decode cX12_counts 10 = .ok (.dup2, 1) := by decide +kernel
theorem dX12_counts_11 : decode cX12_counts 11 = .ok (.iaload, 1) := by decide +kernel
theorem dX12_counts_12 : decode cX12_counts 12 = .ok (.iconst 1, 1) := by decide +kernel
theorem dX12_counts_13 : decode cX12_counts 13 = .ok (.iadd, 1) := by decide +kernel
theorem dX12_counts_14 : decode cX12_counts 14 = .ok (.iastore, 1) := by decide +kernel
theorem dX12_counts_15 : decode cX12_counts 15 = .ok (.return_, 1) := by decide +kernel
theorem dX12_goes_0 : decode cX12_goes 0 = .ok (.aload_n 0, 1) := by decide +kernel
theorem dX12_goes_1 : decode cX12_goes 1 = .ok (.aload_n 0, 1) := by decide +kernel
theorem dX12_goes_2 : decode cX12_goes 2 = .ok (.getfield 7, 3) := by decide +kernel
theorem dX12_goes_5 : decode cX12_goes 5 = .ok (.ldc2_w 340, 3) := by decide +kernel
theorem dX12_goes_8 : decode cX12_goes 8 = .ok (.lmul, 1) := by decide +kernel
theorem dX12_goes_9 : decode cX12_goes 9 = .ok (.ldc2_w 342, 3) := by decide +kernel
theorem dX12_goes_12 : decode cX12_goes 12 = .ok (.ladd, 1) := by decide +kernel
theorem dX12_goes_13 : decode cX12_goes 13 = .ok (.putfield 7, 3) := by decide +kernel
theorem dX12_goes_16 : decode cX12_goes 16 = .ok (.aload_n 0, 1) := by decide +kernel
theorem dX12_goes_17 : decode cX12_goes 17 = .ok (.getfield 7, 3) := by decide +kernel
theorem dX12_goes_20 : decode cX12_goes 20 = .ok (.bipush 33, 2) := by decide +kernel
theorem dX12_goes_22 : decode cX12_goes 22 = .ok (.lushr, 1) := by decide +kernel
theorem dX12_goes_23 : decode cX12_goes 23 = .ok (.ldc2_w 344, 3) := by decide +kernel
theorem dX12_goes_26 : decode cX12_goes 26 = .ok (.lrem, 1) := by decide +kernel
theorem dX12_goes_27 : decode cX12_goes 27 = .ok (.l2i, 1) := by decide +kernel
theorem dX12_goes_28 : decode cX12_goes 28 = .ok (.istore_n 3, 1) := by decide +kernel
theorem dX12_goes_29 : decode cX12_goes 29 = .ok (.aload_n 0, 1) := by decide +kernel
theorem dX12_goes_30 : decode cX12_goes 30 = .ok (.getfield 20, 3) := by decide +kernel
theorem dX12_goes_33 : decode cX12_goes 33 = .ok (.iload_n 1, 1) := by decide +kernel
theorem dX12_goes_34 : decode cX12_goes 34 = .ok (.sipush 9999, 3) := by decide +kernel
theorem dX12_goes_37 : decode cX12_goes 37 = .ok (.aload_n 0, 1) := by decide +kernel
theorem dX12_goes_38 : decode cX12_goes 38 = .ok (.getfield 20, 3) := by decide +kernel
theorem dX12_goes_41 : decode cX12_goes 41 = .ok (.iload_n 1, 1) := by decide +kernel
theorem dX12_goes_42 : decode cX12_goes 42 = .ok (.iaload, 1) := by decide +kernel
theorem dX12_goes_43 : decode cX12_goes 43 = .ok (.aload_n 0, 1) := by decide +kernel
theorem dX12_goes_44 : decode cX12_goes 44 = .ok (.getfield 17, 3) := by decide +kernel
theorem dX12_goes_47 : decode cX12_goes 47 = .ok (.iload_n 1, 1) := by decide +kernel
theorem dX12_goes_48 : decode cX12_goes 48 = .ok (.iaload, 1) := by decide +kernel
theorem dX12_goes_49 : decode cX12_goes 49 = .ok (.iadd, 1) := by decide +kernel
theorem dX12_goes_50 : decode cX12_goes 50 = .ok (.invokestatic 334, 3) := by decide +kernel
theorem dX12_goes_53 : decode cX12_goes 53 = .ok (.iastore, 1) := by decide +kernel
theorem dX12_goes_54 : decode cX12_goes 54 = .ok (.bipush 16, 2) := by decide +kernel
theorem dX12_goes_56 : decode cX12_goes 56 = .ok (.aload_n 0, 1) := by decide +kernel
theorem dX12_goes_57 : decode cX12_goes 57 = .ok (.getfield 161, 3) := by decide +kernel
theorem dX12_goes_60 : decode cX12_goes 60 = .ok (.imul, 1) := by decide +kernel
theorem dX12_goes_61 : decode cX12_goes 61 = .ok (.iload_n 1, 1) := by decide +kernel
theorem dX12_goes_62 : decode cX12_goes 62 = .ok (.iadd, 1) := by decide +kernel
theorem dX12_goes_63 : decode cX12_goes 63 = .ok (.istore 4, 2) := by decide +kernel
theorem dX12_goes_65 : decode cX12_goes 65 = .ok (.aload_n 0, 1) := by decide +kernel
theorem dX12_goes_66 : decode cX12_goes 66 = .ok (.getfield 44, 3) := by decide +kernel
theorem dX12_goes_69 : decode cX12_goes 69 = .ok (.iload 4, 2) := by decide +kernel
theorem dX12_goes_71 : decode cX12_goes 71 = .ok (.iload_n 3, 1) := by decide +kernel
theorem dX12_goes_72 : decode cX12_goes 72 = .ok (.iastore, 1) := by decide +kernel
theorem dX12_goes_73 : decode cX12_goes 73 = .ok (.aload_n 0, 1) := by decide +kernel
theorem dX12_goes_74 : decode cX12_goes 74 = .ok (.getfield 38, 3) := by decide +kernel
theorem dX12_goes_77 : decode cX12_goes 77 = .ok (.iload 4, 2) := by decide +kernel
theorem dX12_goes_79 : decode cX12_goes 79 = .ok (.aload_n 0, 1) := by decide +kernel
theorem dX12_goes_80 : decode cX12_goes 80 = .ok (.getfield 20, 3) := by decide +kernel
theorem dX12_goes_83 : decode cX12_goes 83 = .ok (.iload_n 1, 1) := by decide +kernel
theorem dX12_goes_84 : decode cX12_goes 84 = .ok (.iaload, 1) := by decide +kernel
theorem dX12_goes_85 : decode cX12_goes 85 = .ok (.iastore, 1) := by decide +kernel
theorem dX12_goes_86 : decode cX12_goes 86 = .ok (.aload_n 0, 1) := by decide +kernel
theorem dX12_goes_87 : decode cX12_goes 87 = .ok (.getfield 41, 3) := by decide +kernel
theorem dX12_goes_90 : decode cX12_goes 90 = .ok (.iload 4, 2) := by decide +kernel
theorem dX12_goes_92 : decode cX12_goes 92 = .ok (.aload_n 0, 1) := by decide +kernel
theorem dX12_goes_93 : decode cX12_goes 93 = .ok (.getfield 23, 3) := by decide +kernel
theorem dX12_goes_96 : decode cX12_goes 96 = .ok (.iload_n 1, 1) := by decide +kernel
theorem dX12_goes_97 : decode cX12_goes 97 = .ok (.iaload, 1) := by decide +kernel
theorem dX12_goes_98 : decode cX12_goes 98 = .ok (.iastore, 1) := by decide +kernel
theorem dX12_goes_99 : decode cX12_goes 99 = .ok (.aload_n 0, 1) := by decide +kernel
theorem dX12_goes_100 : decode cX12_goes 100 = .ok (.iload_n 1, 1) := by decide +kernel
theorem dX12_goes_101 : decode cX12_goes 101 = .ok (.iload_n 2, 1) := by decide +kernel
theorem dX12_goes_102 : decode cX12_goes 102 = .ok (.invokevirtual 302, 3) := by decide +kernel
theorem dX12_goes_105 : decode cX12_goes 105 = .ok (.istore 5, 2) := by decide +kernel
theorem dX12_goes_107 : decode cX12_goes 107 = .ok (.aload_n 0, 1) := by decide +kernel
theorem dX12_goes_108 : decode cX12_goes 108 = .ok (.aload_n 0, 1) := by decide +kernel
theorem dX12_goes_109 : decode cX12_goes 109 = .ok (.getfield 53, 3) := by decide +kernel
theorem dX12_goes_112 : decode cX12_goes 112 = .ok (.iload_n 1, 1) := by decide +kernel
theorem dX12_goes_113 : decode cX12_goes 113 = .ok (.iload_n 2, 1) := by decide +kernel
theorem dX12_goes_114 : decode cX12_goes 114 = .ok (.iload_n 3, 1) := by decide +kernel
theorem dX12_goes_115 : decode cX12_goes 115 = .ok (.aload_n 0, 1) := by decide +kernel
theorem dX12_goes_116 : decode cX12_goes 116 = .ok (.getfield 20, 3) := by decide +kernel
theorem dX12_goes_119 : decode cX12_goes 119 = .ok (.iload_n 1, 1) := by decide +kernel
theorem dX12_goes_120 : decode cX12_goes 120 = .ok (.iaload, 1) := by decide +kernel
theorem dX12_goes_121 : decode cX12_goes 121 = .ok (.aload_n 0, 1) := by decide +kernel
theorem dX12_goes_122 : decode cX12_goes 122 = .ok (.getfield 23, 3) := by decide +kernel
theorem dX12_goes_125 : decode cX12_goes 125 = .ok (.iload_n 1, 1) := by decide +kernel
theorem dX12_goes_126 : decode cX12_goes 126 = .ok (.iaload, 1) := by decide +kernel
theorem dX12_goes_127 : decode cX12_goes 127 = .ok (.invokevirtual 346, 3) := by decide +kernel
theorem dX12_goes_130 : decode cX12_goes 130 = .ok (.istore 6, 2) := by decide +kernel
theorem dX12_goes_132 : decode cX12_goes 132 = .ok (.aload_n 0, 1) := by decide +kernel
theorem dX12_goes_133 : decode cX12_goes 133 = .ok (.getfield 35, 3) := by decide +kernel
theorem dX12_goes_136 : decode cX12_goes 136 = .ok (.iload 4, 2) := by decide +kernel
theorem dX12_goes_138 : decode cX12_goes 138 = .ok (.iload 5, 2) := by decide +kernel
theorem dX12_goes_140 : decode cX12_goes 140 = .ok (.iastore, 1) := by decide +kernel
theorem dX12_goes_141 : decode cX12_goes 141 = .ok (.aload_n 0, 1) := by decide +kernel
theorem dX12_goes_142 : decode cX12_goes 142 = .ok (.getfield 23, 3) := by decide +kernel
theorem dX12_goes_145 : decode cX12_goes 145 = .ok (.iload_n 1, 1) := by decide +kernel
theorem dX12_goes_146 : decode cX12_goes 146 = .ok (.dup2, 1) := by decide +kernel
theorem dX12_goes_147 : decode cX12_goes 147 = .ok (.iaload, 1) := by decide +kernel
theorem dX12_goes_148 : decode cX12_goes 148 = .ok (.iconst 1, 1) := by decide +kernel
theorem dX12_goes_149 : decode cX12_goes 149 = .ok (.iadd, 1) := by decide +kernel
theorem dX12_goes_150 : decode cX12_goes 150 = .ok (.iastore, 1) := by decide +kernel
theorem dX12_goes_151 : decode cX12_goes 151 = .ok (.iload 6, 2) := by decide +kernel
theorem dX12_goes_153 : decode cX12_goes 153 = .ok (.iload 5, 2) := by decide +kernel
theorem dX12_goes_155 : decode cX12_goes 155 = .ok (.if_icmp .ne 10, 3) := by decide +kernel
theorem dX12_goes_158 : decode cX12_goes 158 = .ok (.aload_n 0, 1) := by decide +kernel
theorem dX12_goes_159 : decode cX12_goes 159 = .ok (.iload_n 1, 1) := by decide +kernel
theorem dX12_goes_160 : decode cX12_goes 160 = .ok (.iconst 2, 1) := by decide +kernel
theorem dX12_goes_161 : decode cX12_goes 161 = .ok (.invokevirtual 350, 3) := by decide +kernel
theorem dX12_goes_164 : decode cX12_goes 164 = .ok (.return_, 1) := by decide +kernel
theorem dX12_goes_165 : decode cX12_goes 165 = .ok (.aload_n 0, 1) := by decide +kernel
theorem dX12_goes_166 : decode cX12_goes 166 = .ok (.iload_n 1, 1) := by decide +kernel
theorem dX12_goes_167 : decode cX12_goes 167 = .ok (.aload_n 0, 1) := by decide +kernel
theorem dX12_goes_168 : decode cX12_goes 168 = .ok (.getfield 325, 3) := by decide +kernel
theorem dX12_goes_171 : decode cX12_goes 171 = .ok (.ifCond .ne 7, 3) := by decide +kernel
theorem dX12_goes_174 : decode cX12_goes 174 = .ok (.iconst 0, 1) := by decide +kernel
theorem dX12_goes_175 : decode cX12_goes 175 = .ok (.goto 4, 3) := by decide +kernel
theorem dX12_goes_178 : decode cX12_goes 178 = .ok (.iconst 1, 1) := by decide +kernel
theorem dX12_goes_179 : decode cX12_goes 179 = .ok (.invokevirtual 350, 3) := by decide +kernel
theorem dX12_goes_182 : decode cX12_goes 182 = .ok (.iload 6, 2) := by decide +kernel
theorem dX12_goes_184 : decode cX12_goes 184 = .ok (.iload 5, 2) := by decide +kernel
theorem dX12_goes_186 : decode cX12_goes 186 = .ok (.isub, 1) := by decide +kernel
theorem dX12_goes_187 : decode cX12_goes 187 = .ok (.invokestatic 337, 3) := by decide +kernel
theorem dX12_goes_190 : decode cX12_goes 190 = .ok (.aload_n 0, 1) := by decide +kernel
theorem dX12_goes_191 : decode cX12_goes 191 = .ok (.getfield 174, 3) := by decide +kernel
theorem dX12_goes_194 : decode cX12_goes 194 = .ok (.if_icmp .gt 7, 3) := by decide +kernel
theorem dX12_goes_197 : decode cX12_goes 197 = .ok (.iconst 1, 1) := by decide +kernel
theorem dX12_goes_198 : decode cX12_goes 198 = .ok (.goto 4, 3) := by decide +kernel
theorem dX12_goes_201 : decode cX12_goes 201 = .ok (.iconst 0, 1) := by decide +kernel
theorem dX12_goes_202 : decode cX12_goes 202 = .ok (.istore 7, 2) := by decide +kernel
theorem dX12_goes_204 : decode cX12_goes 204 = .ok (.iload 7, 2) := by decide +kernel
theorem dX12_goes_206 : decode cX12_goes 206 = .ok (.ifCond .eq 10, 3) := by decide +kernel
theorem dX12_goes_209 : decode cX12_goes 209 = .ok (.aload_n 0, 1) := by decide +kernel
theorem dX12_goes_210 : decode cX12_goes 210 = .ok (.getfield 177, 3) := by decide +kernel
theorem dX12_goes_213 : decode cX12_goes 213 = .ok (.goto 7, 3) := by decide +kernel
theorem dX12_goes_216 : decode cX12_goes 216 = .ok (.aload_n 0, 1) := by decide +kernel
theorem dX12_goes_217 : decode cX12_goes 217 = .ok (.getfield 171, 3) := by decide +kernel
theorem dX12_goes_220 : decode cX12_goes 220 = .ok (.istore 8, 2) := by decide +kernel
theorem dX12_goes_222 : decode cX12_goes 222 = .ok (.aload_n 0, 1) := by decide +kernel
theorem dX12_goes_223 : decode cX12_goes 223 = .ok (.getfield 20, 3) := by decide +kernel
theorem dX12_goes_226 : decode cX12_goes 226 = .ok (.iload_n 1, 1) := by decide +kernel
theorem dX12_goes_227 : decode cX12_goes 227 = .ok (.iaload, 1) := by decide +kernel
theorem dX12_goes_228 : decode cX12_goes 228 = .ok (.iload 8, 2) := by decide +kernel
theorem dX12_goes_230 : decode cX12_goes 230 = .ok (.if_icmp .ge 10, 3) := by decide +kernel
theorem dX12_goes_233 : decode cX12_goes 233 = .ok (.aload_n 0, 1) := by decide +kernel
theorem dX12_goes_234 : decode cX12_goes 234 = .ok (.iload_n 1, 1) := by decide +kernel
theorem dX12_goes_235 : decode cX12_goes 235 = .ok (.iconst 3, 1) := by decide +kernel
theorem dX12_goes_236 : decode cX12_goes 236 = .ok (.invokevirtual 350, 3) := by decide +kernel
theorem dX12_goes_239 : decode cX12_goes 239 = .ok (.return_, 1) := by decide +kernel
theorem dX12_goes_240 : decode cX12_goes 240 = .ok (.aload_n 0, 1) := by decide +kernel
theorem dX12_goes_241 : decode cX12_goes 241 = .ok (.getfield 20, 3) := by decide +kernel
theorem dX12_goes_244 : decode cX12_goes 244 = .ok (.iload_n 1, 1) := by decide +kernel
theorem dX12_goes_245 : decode cX12_goes 245 = .ok (.dup2, 1) := by decide +kernel
theorem dX12_goes_246 : decode cX12_goes 246 = .ok (.iaload, 1) := by decide +kernel
theorem dX12_goes_247 : decode cX12_goes 247 = .ok (.iload 8, 2) := by decide +kernel
theorem dX12_goes_249 : decode cX12_goes 249 = .ok (.isub, 1) := by decide +kernel
theorem dX12_goes_250 : decode cX12_goes 250 = .ok (.iastore, 1) := by decide +kernel
theorem dX12_goes_251 : decode cX12_goes 251 = .ok (.aload_n 0, 1) := by decide +kernel
theorem dX12_goes_252 : decode cX12_goes 252 = .ok (.iload_n 1, 1) := by decide +kernel
theorem dX12_goes_253 : decode cX12_goes 253 = .ok (.iload 7, 2) := by decide +kernel
theorem dX12_goes_255 : decode cX12_goes 255 = .ok (.ifCond .eq 7, 3) := by decide +kernel
theorem dX12_goes_258 : decode cX12_goes 258 = .ok (.iconst 4, 1) := by decide +kernel
theorem dX12_goes_259 : decode cX12_goes 259 = .ok (.goto 4, 3) := by decide +kernel
theorem dX12_goes_262 : decode cX12_goes 262 = .ok (.iconst 5, 1) := by decide +kernel
theorem dX12_goes_263 : decode cX12_goes 263 = .ok (.invokevirtual 350, 3) := by decide +kernel
theorem dX12_goes_266 : decode cX12_goes 266 = .ok (.aload_n 0, 1) := by decide +kernel
theorem dX12_goes_267 : decode cX12_goes 267 = .ok (.getfield 35, 3) := by decide +kernel
theorem dX12_goes_270 : decode cX12_goes 270 = .ok (.iload 4, 2) := by decide +kernel
theorem dX12_goes_272 : decode cX12_goes 272 = .ok (.iload 6, 2) := by decide +kernel
theorem dX12_goes_274 : decode cX12_goes 274 = .ok (.iastore, 1) := by decide +kernel
theorem dX12_goes_275 : decode cX12_goes 275 = .ok (.aload_n 0, 1) := by decide +kernel
theorem dX12_goes_276 : decode cX12_goes 276 = .ok (.getfield 23, 3) := by decide +kernel
theorem dX12_goes_279 : decode cX12_goes 279 = .ok (.iload_n 1, 1) := by decide +kernel
theorem dX12_goes_280 : decode cX12_goes 280 = .ok (.iconst 0, 1) := by decide +kernel
theorem dX12_goes_281 : decode cX12_goes 281 = .ok (.iastore, 1) := by decide +kernel
theorem dX12_goes_282 : decode cX12_goes 282 = .ok (.return_, 1) := by decide +kernel
theorem dX12_step_0 : decode cX12_step 0 = .ok (.aload_n 0, 1) := by decide +kernel
theorem dX12_step_1 : decode cX12_step 1 = .ok (.invokevirtual 353, 3) := by decide +kernel
theorem dX12_step_4 : decode cX12_step 4 = .ok (.iconst 0, 1) := by decide +kernel
theorem dX12_step_5 : decode cX12_step 5 = .ok (.istore_n 1, 1) := by decide +kernel
theorem dX12_step_6 : decode cX12_step 6 = .ok (.iload_n 1, 1) := by decide +kernel
theorem dX12_step_7 : decode cX12_step 7 = .ok (.aload_n 0, 1) := by decide +kernel
theorem dX12_step_8 : decode cX12_step 8 = .ok (.getfield 154, 3) := by decide +kernel
theorem dX12_step_11 : decode cX12_step 11 = .ok (.if_icmp .ge 20, 3) := by decide +kernel
theorem dX12_step_14 : decode cX12_step 14 = .ok (.aload_n 0, 1) := by decide +kernel
theorem dX12_step_15 : decode cX12_step 15 = .ok (.iload_n 1, 1) := by decide +kernel
theorem dX12_step_16 : decode cX12_step 16 = .ok (.aload_n 0, 1) := by decide +kernel
theorem dX12_step_17 : decode cX12_step 17 = .ok (.getfield 161, 3) := by decide +kernel
theorem dX12_step_20 : decode cX12_step 20 = .ok (.iconst 1, 1) := by decide +kernel
theorem dX12_step_21 : decode cX12_step 21 = .ok (.isub, 1) := by decide +kernel
theorem dX12_step_22 : decode cX12_step 22 = .ok (.invokevirtual 356, 3) := by decide +kernel
theorem dX12_step_25 : decode cX12_step 25 = .ok (.iinc 1 1, 3) := by decide +kernel
theorem dX12_step_28 : decode cX12_step 28 = .ok (.goto (-22), 3) := by decide +kernel
theorem dX12_step_31 : decode cX12_step 31 = .ok (.return_, 1) := by decide +kernel
theorem dX12_run_0 : decode cX12_run 0 = .ok (.iload_n 1, 1) := by decide +kernel
theorem dX12_run_1 : decode cX12_run 1 = .ok (.iconst 1, 1) := by decide +kernel
theorem dX12_run_2 : decode cX12_run 2 = .ok (.bipush 60, 2) := by decide +kernel
theorem dX12_run_4 : decode cX12_run 4 = .ok (.invokestatic 157, 3) := by decide +kernel
theorem dX12_run_7 : decode cX12_run 7 = .ok (.ifCond .eq 30, 3) := by decide +kernel
theorem dX12_run_10 : decode cX12_run 10 = .ok (.aload_n 0, 1) := by decide +kernel
theorem dX12_run_11 : decode cX12_run 11 = .ok (.getfield 161, 3) := by decide +kernel
theorem dX12_run_14 : decode cX12_run 14 = .ok (.iload_n 1, 1) := by decide +kernel
theorem dX12_run_15 : decode cX12_run 15 = .ok (.iadd, 1) := by decide +kernel
theorem dX12_run_16 : decode cX12_run 16 = .ok (.sipush 200, 3) := by decide +kernel
theorem dX12_run_19 : decode cX12_run 19 = .ok (.if_icmp .gt 18, 3) := by decide +kernel
theorem dX12_run_22 : decode cX12_run 22 = .ok (.aload_n 0, 1) := by decide +kernel
theorem dX12_run_23 : decode cX12_run 23 = .ok (.getfield 154, 3) := by decide +kernel
theorem dX12_run_26 : decode cX12_run 26 = .ok (.ifCond .eq 11, 3) := by decide +kernel
theorem dX12_run_29 : decode cX12_run 29 = .ok (.aload_n 0, 1) := by decide +kernel
theorem dX12_run_30 : decode cX12_run 30 = .ok (.getfield 53, 3) := by decide +kernel
theorem dX12_run_33 : decode cX12_run 33 = .ok (.iconst (-1), 1) := by decide +kernel
theorem dX12_run_34 : decode cX12_run 34 = .ok (.if_icmp .ne 5, 3) := by decide +kernel
theorem dX12_run_37 : decode cX12_run 37 = .ok (.iconst (-1), 1) := by decide +kernel
theorem dX12_run_38 : decode cX12_run 38 = .ok (.ireturn, 1) := by decide +kernel
theorem dX12_run_39 : decode cX12_run 39 = .ok (.iconst 0, 1) := by decide +kernel
theorem dX12_run_40 : decode cX12_run 40 = .ok (.istore_n 2, 1) := by decide +kernel
theorem dX12_run_41 : decode cX12_run 41 = .ok (.iload_n 2, 1) := by decide +kernel
theorem dX12_run_42 : decode cX12_run 42 = .ok (.iload_n 1, 1) := by decide +kernel
theorem dX12_run_43 : decode cX12_run 43 = .ok (.if_icmp .ge 13, 3) := by decide +kernel
theorem dX12_run_46 : decode cX12_run 46 = .ok (.aload_n 0, 1) := by decide +kernel
theorem dX12_run_47 : decode cX12_run 47 = .ok (.invokevirtual 359, 3) := by decide +kernel
theorem dX12_run_50 : decode cX12_run 50 = .ok (.iinc 2 1, 3) := by decide +kernel
theorem dX12_run_53 : decode cX12_run 53 = .ok (.goto (-12), 3) := by decide +kernel
theorem dX12_run_56 : decode cX12_run 56 = .ok (.aload_n 0, 1) := by decide +kernel
theorem dX12_run_57 : decode cX12_run 57 = .ok (.getfield 161, 3) := by decide +kernel
theorem dX12_run_60 : decode cX12_run 60 = .ok (.ireturn, 1) := by decide +kernel
theorem dX12_lineAt_0 : decode cX12_lineAt 0 = .ok (.iconst 0, 1) := by decide +kernel
theorem dX12_lineAt_1 : decode cX12_lineAt 1 = .ok (.istore_n 2, 1) := by decide +kernel
theorem dX12_lineAt_2 : decode cX12_lineAt 2 = .ok (.iconst 0, 1) := by decide +kernel
theorem dX12_lineAt_3 : decode cX12_lineAt 3 = .ok (.istore_n 3, 1) := by decide +kernel
theorem dX12_lineAt_4 : decode cX12_lineAt 4 = .ok (.iload_n 3, 1) := by decide +kernel
theorem dX12_lineAt_5 : decode cX12_lineAt 5 = .ok (.aload_n 0, 1) := by decide +kernel
theorem dX12_lineAt_6 : decode cX12_lineAt 6 = .ok (.getfield 154, 3) := by decide +kernel
theorem dX12_lineAt_9 : decode cX12_lineAt 9 = .ok (.if_icmp .ge 18, 3) := by decide +kernel
theorem dX12_lineAt_12 : decode cX12_lineAt 12 = .ok (.iload_n 2, 1) := by decide +kernel
theorem dX12_lineAt_13 : decode cX12_lineAt 13 = .ok (.aload_n 0, 1) := by decide +kernel
theorem dX12_lineAt_14 : decode cX12_lineAt 14 = .ok (.iload_n 3, 1) := by decide +kernel
theorem dX12_lineAt_15 : decode cX12_lineAt 15 = .ok (.iload_n 1, 1) := by decide +kernel
theorem dX12_lineAt_16 : decode cX12_lineAt 16 = .ok (.invokevirtual 302, 3) := by decide +kernel
theorem dX12_lineAt_19 : decode cX12_lineAt 19 = .ok (.iadd, 1) := by decide +kernel
theorem dX12_lineAt_20 : decode cX12_lineAt 20 = .ok (.istore_n 2, 1) := by decide +kernel
theorem dX12_lineAt_21 : decode cX12_lineAt 21 = .ok (.iinc 3 1, 3) := by decide +kernel
theorem dX12_lineAt_24 : decode cX12_lineAt 24 = .ok (.goto (-20), 3) := by decide +kernel
theorem dX12_lineAt_27 : decode cX12_lineAt 27 = .ok (.bipush 100, 2) := by decide +kernel
theorem dX12_lineAt_29 : decode cX12_lineAt 29 = .ok (.iload_n 2, 1) := by decide +kernel
theorem dX12_lineAt_30 : decode cX12_lineAt 30 = .ok (.imul, 1) := by decide +kernel
theorem dX12_lineAt_31 : decode cX12_lineAt 31 = .ok (.aload_n 0, 1) := by decide +kernel
theorem dX12_lineAt_32 : decode cX12_lineAt 32 = .ok (.getfield 154, 3) := by decide +kernel
theorem dX12_lineAt_35 : decode cX12_lineAt 35 = .ok (.idiv, 1) := by decide +kernel
theorem dX12_lineAt_36 : decode cX12_lineAt 36 = .ok (.ireturn, 1) := by decide +kernel
theorem dX12_line_0 : decode cX12_line 0 = .ok (.aload_n 0, 1) := by decide +kernel
theorem dX12_line_1 : decode cX12_line 1 = .ok (.iload_n 1, 1) := by decide +kernel
theorem dX12_line_2 : decode cX12_line 2 = .ok (.invokevirtual 362, 3) := by decide +kernel
theorem dX12_line_5 : decode cX12_line 5 = .ok (.ifCond .eq 18, 3) := by decide +kernel
theorem dX12_line_8 : decode cX12_line 8 = .ok (.aload_n 0, 1) := by decide +kernel
theorem dX12_line_9 : decode cX12_line 9 = .ok (.getfield 154, 3) := by decide +kernel
theorem dX12_line_12 : decode cX12_line 12 = .ok (.ifCond .le 11, 3) := by decide +kernel
theorem dX12_line_15 : decode cX12_line 15 = .ok (.aload_n 0, 1) := by decide +kernel
theorem dX12_line_16 : decode cX12_line 16 = .ok (.iload_n 1, 1) := by decide +kernel
theorem dX12_line_17 : decode cX12_line 17 = .ok (.invokevirtual 365, 3) := by decide +kernel
theorem dX12_line_20 : decode cX12_line 20 = .ok (.goto 4, 3) := by decide +kernel
theorem dX12_line_23 : decode cX12_line 23 = .ok (.iconst (-1), 1) := by decide +kernel
theorem dX12_line_24 : decode cX12_line 24 = .ok (.ireturn, 1) := by decide +kernel
theorem dX12_length_0 : decode cX12_length 0 = .ok (.aload_n 0, 1) := by decide +kernel
theorem dX12_length_1 : decode cX12_length 1 = .ok (.iload_n 1, 1) := by decide +kernel
theorem dX12_length_2 : decode cX12_length 2 = .ok (.invokevirtual 167, 3) := by decide +kernel
theorem dX12_length_5 : decode cX12_length 5 = .ok (.ifCond .eq 20, 3) := by decide +kernel
theorem dX12_length_8 : decode cX12_length 8 = .ok (.aload_n 0, 1) := by decide +kernel
theorem dX12_length_9 : decode cX12_length 9 = .ok (.iload_n 2, 1) := by decide +kernel
theorem dX12_length_10 : decode cX12_length 10 = .ok (.invokevirtual 362, 3) := by decide +kernel
theorem dX12_length_13 : decode cX12_length 13 = .ok (.ifCond .eq 12, 3) := by decide +kernel
theorem dX12_length_16 : decode cX12_length 16 = .ok (.aload_n 0, 1) := by decide +kernel
theorem dX12_length_17 : decode cX12_length 17 = .ok (.iload_n 1, 1) := by decide +kernel
theorem dX12_length_18 : decode cX12_length 18 = .ok (.iload_n 2, 1) := by decide +kernel
theorem dX12_length_19 : decode cX12_length 19 = .ok (.invokevirtual 302, 3) := by decide +kernel
theorem dX12_length_22 : decode cX12_length 22 = .ok (.goto 4, 3) := by decide +kernel
theorem dX12_length_25 : decode cX12_length 25 = .ok (.iconst (-1), 1) := by decide +kernel
theorem dX12_length_26 : decode cX12_length 26 = .ok (.ireturn, 1) := by decide +kernel
theorem dX12_wantsNow_0 : decode cX12_wantsNow 0 = .ok (.aload_n 0, 1) := by decide +kernel
theorem dX12_wantsNow_1 : decode cX12_wantsNow 1 = .ok (.aload_n 0, 1) := by decide +kernel
theorem dX12_wantsNow_2 : decode cX12_wantsNow 2 = .ok (.getfield 53, 3) := by decide +kernel
theorem dX12_wantsNow_5 : decode cX12_wantsNow 5 = .ok (.iload_n 1, 1) := by decide +kernel
theorem dX12_wantsNow_6 : decode cX12_wantsNow 6 = .ok (.aload_n 0, 1) := by decide +kernel
theorem dX12_wantsNow_7 : decode cX12_wantsNow 7 = .ok (.getfield 161, 3) := by decide +kernel
theorem dX12_wantsNow_10 : decode cX12_wantsNow 10 = .ok (.iconst 0, 1) := by decide +kernel
theorem dX12_wantsNow_11 : decode cX12_wantsNow 11 = .ok (.aload_n 0, 1) := by decide +kernel
theorem dX12_wantsNow_12 : decode cX12_wantsNow 12 = .ok (.getfield 20, 3) := by decide +kernel
theorem dX12_wantsNow_15 : decode cX12_wantsNow 15 = .ok (.iload_n 1, 1) := by decide +kernel
theorem dX12_wantsNow_16 : decode cX12_wantsNow 16 = .ok (.iaload, 1) := by decide +kernel
theorem dX12_wantsNow_17 : decode cX12_wantsNow 17 = .ok (.aload_n 0, 1) := by decide +kernel
theorem dX12_wantsNow_18 : decode cX12_wantsNow 18 = .ok (.getfield 23, 3) := by decide +kernel
theorem dX12_wantsNow_21 : decode cX12_wantsNow 21 = .ok (.iload_n 1, 1) := by decide +kernel
theorem dX12_wantsNow_22 : decode cX12_wantsNow 22 = .ok (.iaload, 1) := by decide +kernel
theorem dX12_wantsNow_23 : decode cX12_wantsNow 23 = .ok (.invokevirtual 346, 3) := by decide +kernel
theorem dX12_wantsNow_26 : decode cX12_wantsNow 26 = .ok (.ireturn, 1) := by decide +kernel
theorem dX12_wears_0 : decode cX12_wears 0 = .ok (.aload_n 0, 1) := by decide +kernel
theorem dX12_wears_1 : decode cX12_wears 1 = .ok (.iload_n 1, 1) := by decide +kernel
theorem dX12_wears_2 : decode cX12_wears 2 = .ok (.invokevirtual 167, 3) := by decide +kernel
theorem dX12_wears_5 : decode cX12_wears 5 = .ok (.ifCond .ne 5, 3) := by decide +kernel
theorem dX12_wears_8 : decode cX12_wears 8 = .ok (.iconst (-1), 1) := by decide +kernel
theorem dX12_wears_9 : decode cX12_wears 9 = .ok (.ireturn, 1) := by decide +kernel
theorem dX12_wears_10 : decode cX12_wears 10 = .ok (.iload_n 2, 1) := by decide +kernel
theorem dX12_wears_11 : decode cX12_wears 11 = .ok (.tableswitch 104 0 6 #[41, 48, 55, 65, 72, 79, 86], 41) := by decide +kernel
theorem dX12_wears_52 : decode cX12_wears 52 = .ok (.aload_n 0, 1) := by decide +kernel
theorem dX12_wears_53 : decode cX12_wears 53 = .ok (.getfield 13, 3) := by decide +kernel
theorem dX12_wears_56 : decode cX12_wears 56 = .ok (.iload_n 1, 1) := by decide +kernel
theorem dX12_wears_57 : decode cX12_wears 57 = .ok (.iaload, 1) := by decide +kernel
theorem dX12_wears_58 : decode cX12_wears 58 = .ok (.ireturn, 1) := by decide +kernel
theorem dX12_wears_59 : decode cX12_wears 59 = .ok (.aload_n 0, 1) := by decide +kernel
theorem dX12_wears_60 : decode cX12_wears 60 = .ok (.getfield 17, 3) := by decide +kernel
theorem dX12_wears_63 : decode cX12_wears 63 = .ok (.iload_n 1, 1) := by decide +kernel
theorem dX12_wears_64 : decode cX12_wears 64 = .ok (.iaload, 1) := by decide +kernel
theorem dX12_wears_65 : decode cX12_wears 65 = .ok (.ireturn, 1) := by decide +kernel
theorem dX12_wears_66 : decode cX12_wears 66 = .ok (.aload_n 0, 1) := by decide +kernel
theorem dX12_wears_67 : decode cX12_wears 67 = .ok (.iload_n 1, 1) := by decide +kernel
theorem dX12_wears_68 : decode cX12_wears 68 = .ok (.aload_n 0, 1) := by decide +kernel
theorem dX12_wears_69 : decode cX12_wears 69 = .ok (.getfield 161, 3) := by decide +kernel
theorem dX12_wears_72 : decode cX12_wears 72 = .ok (.invokevirtual 302, 3) := by decide +kernel
theorem dX12_wears_75 : decode cX12_wears 75 = .ok (.ireturn, 1) := by decide +kernel
theorem dX12_wears_76 : decode cX12_wears 76 = .ok (.aload_n 0, 1) := by decide +kernel
theorem dX12_wears_77 : decode cX12_wears 77 = .ok (.getfield 20, 3) := by decide +kernel
theorem dX12_wears_80 : decode cX12_wears 80 = .ok (.iload_n 1, 1) := by decide +kernel
theorem dX12_wears_81 : decode cX12_wears 81 = .ok (.iaload, 1) := by decide +kernel
theorem dX12_wears_82 : decode cX12_wears 82 = .ok (.ireturn, 1) := by decide +kernel
theorem dX12_wears_83 : decode cX12_wears 83 = .ok (.aload_n 0, 1) := by decide +kernel
theorem dX12_wears_84 : decode cX12_wears 84 = .ok (.getfield 23, 3) := by decide +kernel
theorem dX12_wears_87 : decode cX12_wears 87 = .ok (.iload_n 1, 1) := by decide +kernel
theorem dX12_wears_88 : decode cX12_wears 88 = .ok (.iaload, 1) := by decide +kernel
theorem dX12_wears_89 : decode cX12_wears 89 = .ok (.ireturn, 1) := by decide +kernel
theorem dX12_wears_90 : decode cX12_wears 90 = .ok (.aload_n 0, 1) := by decide +kernel
theorem dX12_wears_91 : decode cX12_wears 91 = .ok (.getfield 26, 3) := by decide +kernel
theorem dX12_wears_94 : decode cX12_wears 94 = .ok (.iload_n 1, 1) := by decide +kernel
theorem dX12_wears_95 : decode cX12_wears 95 = .ok (.iaload, 1) := by decide +kernel
theorem dX12_wears_96 : decode cX12_wears 96 = .ok (.ireturn, 1) := by decide +kernel
theorem dX12_wears_97 : decode cX12_wears 97 = .ok (.aload_n 0, 1) := by decide +kernel
theorem dX12_wears_98 : decode cX12_wears 98 = .ok (.getfield 53, 3) := by decide +kernel
theorem dX12_wears_101 : decode cX12_wears 101 = .ok (.iconst (-1), 1) := by decide +kernel
theorem dX12_wears_102 : decode cX12_wears 102 = .ok (.if_icmp .ne 7, 3) := by decide +kernel
theorem dX12_wears_105 : decode cX12_wears 105 = .ok (.iconst (-1), 1) := by decide +kernel
theorem dX12_wears_106 : decode cX12_wears 106 = .ok (.goto 8, 3) := by decide +kernel
theorem dX12_wears_109 : decode cX12_wears 109 = .ok (.aload_n 0, 1) := by decide +kernel
theorem dX12_wears_110 : decode cX12_wears 110 = .ok (.iload_n 1, 1) := by decide +kernel
theorem dX12_wears_111 : decode cX12_wears 111 = .ok (.invokevirtual 368, 3) := by decide +kernel
theorem dX12_wears_114 : decode cX12_wears 114 = .ok (.ireturn, 1) := by decide +kernel
theorem dX12_wears_115 : decode cX12_wears 115 = .ok (.iload_n 2, 1) := by decide +kernel
theorem dX12_wears_116 : decode cX12_wears 116 = .ok (.bipush 10, 2) := by decide +kernel
theorem dX12_wears_118 : decode cX12_wears 118 = .ok (.bipush 15, 2) := by decide +kernel
theorem dX12_wears_120 : decode cX12_wears 120 = .ok (.invokestatic 157, 3) := by decide +kernel
theorem dX12_wears_123 : decode cX12_wears 123 = .ok (.ifCond .eq 20, 3) := by decide +kernel
theorem dX12_wears_126 : decode cX12_wears 126 = .ok (.aload_n 0, 1) := by decide +kernel
theorem dX12_wears_127 : decode cX12_wears 127 = .ok (.getfield 32, 3) := by decide +kernel
theorem dX12_wears_130 : decode cX12_wears 130 = .ok (.bipush 6, 2) := by decide +kernel
theorem dX12_wears_132 : decode cX12_wears 132 = .ok (.iload_n 1, 1) := by decide +kernel
theorem dX12_wears_133 : decode cX12_wears 133 = .ok (.imul, 1) := by decide +kernel
theorem dX12_wears_134 : decode cX12_wears 134 = .ok (.iload_n 2, 1) := by decide +kernel
theorem dX12_wears_135 : decode cX12_wears 135 = .ok (.iadd, 1) := by decide +kernel
theorem dX12_wears_136 : decode cX12_wears 136 = .ok (.bipush 10, 2) := by decide +kernel
theorem dX12_wears_138 : decode cX12_wears 138 = .ok (.isub, 1) := by decide +kernel
theorem dX12_wears_139 : decode cX12_wears 139 = .ok (.iaload, 1) := by decide +kernel
theorem dX12_wears_140 : decode cX12_wears 140 = .ok (.goto 4, 3) := by decide +kernel
theorem dX12_wears_143 : decode cX12_wears 143 = .ok (.iconst (-1), 1) := by decide +kernel
theorem dX12_wears_144 : decode cX12_wears 144 = .ok (.ireturn, 1) := by decide +kernel
theorem dX12_keeps_0 : decode cX12_keeps 0 = .ok (.aload_n 0, 1) := by decide +kernel
theorem dX12_keeps_1 : decode cX12_keeps 1 = .ok (.aload_n 0, 1) := by decide +kernel
theorem dX12_keeps_2 : decode cX12_keeps 2 = .ok (.getfield 7, 3) := by decide +kernel
theorem dX12_keeps_5 : decode cX12_keeps 5 = .ok (.putfield 371, 3) := by decide +kernel
theorem dX12_keeps_8 : decode cX12_keeps 8 = .ok (.aload_n 0, 1) := by decide +kernel
theorem dX12_keeps_9 : decode cX12_keeps 9 = .ok (.getfield 107, 3) := by decide +kernel
theorem dX12_keeps_12 : decode cX12_keeps 12 = .ok (.iconst 0, 1) := by decide +kernel
theorem dX12_keeps_13 : decode cX12_keeps 13 = .ok (.aload_n 0, 1) := by decide +kernel
theorem dX12_keeps_14 : decode cX12_keeps 14 = .ok (.getfield 161, 3) := by decide +kernel
theorem dX12_keeps_17 : decode cX12_keeps 17 = .ok (.iastore, 1) := by decide +kernel
theorem dX12_keeps_18 : decode cX12_keeps 18 = .ok (.aload_n 0, 1) := by decide +kernel
theorem dX12_keeps_19 : decode cX12_keeps 19 = .ok (.getfield 107, 3) := by decide +kernel
theorem dX12_keeps_22 : decode cX12_keeps 22 = .ok (.iconst 1, 1) := by decide +kernel
theorem dX12_keeps_23 : decode cX12_keeps 23 = .ok (.aload_n 0, 1) := by decide +kernel
theorem dX12_keeps_24 : decode cX12_keeps 24 = .ok (.getfield 164, 3) := by decide +kernel
theorem dX12_keeps_27 : decode cX12_keeps 27 = .ok (.iastore, 1) := by decide +kernel
theorem dX12_keeps_28 : decode cX12_keeps 28 = .ok (.iconst 0, 1) := by decide +kernel
theorem dX12_keeps_29 : decode cX12_keeps 29 = .ok (.istore_n 1, 1) := by decide +kernel
theorem dX12_keeps_30 : decode cX12_keeps 30 = .ok (.iload_n 1, 1) := by decide +kernel
theorem dX12_keeps_31 : decode cX12_keeps 31 = .ok (.bipush 16, 2) := by decide +kernel
theorem dX12_keeps_33 : decode cX12_keeps 33 = .ok (.if_icmp .ge 38, 3) := by decide +kernel
theorem dX12_keeps_36 : decode cX12_keeps 36 = .ok (.aload_n 0, 1) := by decide +kernel
theorem dX12_keeps_37 : decode cX12_keeps 37 = .ok (.getfield 107, 3) := by decide +kernel
theorem dX12_keeps_40 : decode cX12_keeps 40 = .ok (.iconst 2, 1) := by decide +kernel
theorem dX12_keeps_41 : decode cX12_keeps 41 = .ok (.iload_n 1, 1) := by decide +kernel
theorem dX12_keeps_42 : decode cX12_keeps 42 = .ok (.iadd, 1) := by decide +kernel
theorem dX12_keeps_43 : decode cX12_keeps 43 = .ok (.aload_n 0, 1) := by decide +kernel
theorem dX12_keeps_44 : decode cX12_keeps 44 = .ok (.getfield 20, 3) := by decide +kernel
theorem dX12_keeps_47 : decode cX12_keeps 47 = .ok (.iload_n 1, 1) := by decide +kernel
theorem dX12_keeps_48 : decode cX12_keeps 48 = .ok (.iaload, 1) := by decide +kernel
theorem dX12_keeps_49 : decode cX12_keeps 49 = .ok (.iastore, 1) := by decide +kernel
theorem dX12_keeps_50 : decode cX12_keeps 50 = .ok (.aload_n 0, 1) := by decide +kernel
theorem dX12_keeps_51 : decode cX12_keeps 51 = .ok (.getfield 107, 3) := by decide +kernel
theorem dX12_keeps_54 : decode cX12_keeps 54 = .ok (.bipush 18, 2) := by decide +kernel
theorem dX12_keeps_56 : decode cX12_keeps 56 = .ok (.iload_n 1, 1) := by decide +kernel
theorem dX12_keeps_57 : decode cX12_keeps 57 = .ok (.iadd, 1) := by decide +kernel
theorem dX12_keeps_58 : decode cX12_keeps 58 = .ok (.aload_n 0, 1) := by decide +kernel
theorem dX12_keeps_59 : decode cX12_keeps 59 = .ok (.getfield 23, 3) := by decide +kernel
theorem dX12_keeps_62 : decode cX12_keeps 62 = .ok (.iload_n 1, 1) := by decide +kernel
theorem dX12_keeps_63 : decode cX12_keeps 63 = .ok (.iaload, 1) := by decide +kernel
theorem dX12_keeps_64 : decode cX12_keeps 64 = .ok (.iastore, 1) := by decide +kernel
theorem dX12_keeps_65 : decode cX12_keeps 65 = .ok (.iinc 1 1, 3) := by decide +kernel
theorem dX12_keeps_68 : decode cX12_keeps 68 = .ok (.goto (-38), 3) := by decide +kernel
theorem dX12_keeps_71 : decode cX12_keeps 71 = .ok (.iconst 0, 1) := by decide +kernel
theorem dX12_keeps_72 : decode cX12_keeps 72 = .ok (.istore_n 1, 1) := by decide +kernel
theorem dX12_keeps_73 : decode cX12_keeps 73 = .ok (.iload_n 1, 1) := by decide +kernel
theorem dX12_keeps_74 : decode cX12_keeps 74 = .ok (.bipush 96, 2) := by decide +kernel
theorem dX12_keeps_76 : decode cX12_keeps 76 = .ok (.if_icmp .ge 24, 3) := by decide +kernel
theorem dX12_keeps_79 : decode cX12_keeps 79 = .ok (.aload_n 0, 1) := by decide +kernel
theorem dX12_keeps_80 : decode cX12_keeps 80 = .ok (.getfield 107, 3) := by decide +kernel
theorem dX12_keeps_83 : decode cX12_keeps 83 = .ok (.bipush 34, 2) := by decide +kernel
theorem dX12_keeps_85 : decode cX12_keeps 85 = .ok (.iload_n 1, 1) := by decide +kernel
theorem dX12_keeps_86 : decode cX12_keeps 86 = .ok (.iadd, 1) := by decide +kernel
theorem dX12_keeps_87 : decode cX12_keeps 87 = .ok (.aload_n 0, 1) := by decide +kernel
theorem dX12_keeps_88 : decode cX12_keeps 88 = .ok (.getfield 32, 3) := by decide +kernel
theorem dX12_keeps_91 : decode cX12_keeps 91 = .ok (.iload_n 1, 1) := by decide +kernel
theorem dX12_keeps_92 : decode cX12_keeps 92 = .ok (.iaload, 1) := by decide +kernel
theorem dX12_keeps_93 : decode cX12_keeps 93 = .ok (.iastore, 1) := by decide +kernel
theorem dX12_keeps_94 : decode cX12_keeps 94 = .ok (.iinc 1 1, 3) := by decide +kernel
theorem dX12_keeps_97 : decode cX12_keeps 97 = .ok (.goto (-24), 3) := by decide +kernel
theorem dX12_keeps_100 : decode cX12_keeps 100 = .ok (.return_, 1) := by decide +kernel
theorem dX12_takesBack_0 : decode cX12_takesBack 0 = .ok (.aload_n 0, 1) := by decide +kernel
theorem dX12_takesBack_1 : decode cX12_takesBack 1 = .ok (.aload_n 0, 1) := by decide +kernel
theorem dX12_takesBack_2 : decode cX12_takesBack 2 = .ok (.getfield 371, 3) := by decide +kernel
theorem dX12_takesBack_5 : decode cX12_takesBack 5 = .ok (.putfield 7, 3) := by decide +kernel
theorem dX12_takesBack_8 : decode cX12_takesBack 8 = .ok (.aload_n 0, 1) := by decide +kernel
theorem dX12_takesBack_9 : decode cX12_takesBack 9 = .ok (.aload_n 0, 1) := by decide +kernel
theorem dX12_takesBack_10 : decode cX12_takesBack 10 = .ok (.getfield 107, 3) := by decide +kernel
theorem dX12_takesBack_13 : decode cX12_takesBack 13 = .ok (.iconst 0, 1) := by decide +kernel
theorem dX12_takesBack_14 : decode cX12_takesBack 14 = .ok (.iaload, 1) := by decide +kernel
theorem dX12_takesBack_15 : decode cX12_takesBack 15 = .ok (.putfield 161, 3) := by decide +kernel
theorem dX12_takesBack_18 : decode cX12_takesBack 18 = .ok (.aload_n 0, 1) := by decide +kernel
theorem dX12_takesBack_19 : decode cX12_takesBack 19 = .ok (.aload_n 0, 1) := by decide +kernel
theorem dX12_takesBack_20 : decode cX12_takesBack 20 = .ok (.getfield 107, 3) := by decide +kernel
theorem dX12_takesBack_23 : decode cX12_takesBack 23 = .ok (.iconst 1, 1) := by decide +kernel
theorem dX12_takesBack_24 : decode cX12_takesBack 24 = .ok (.iaload, 1) := by decide +kernel
theorem dX12_takesBack_25 : decode cX12_takesBack 25 = .ok (.putfield 164, 3) := by decide +kernel
theorem dX12_takesBack_28 : decode cX12_takesBack 28 = .ok (.iconst 0, 1) := by decide +kernel
theorem dX12_takesBack_29 : decode cX12_takesBack 29 = .ok (.istore_n 1, 1) := by decide +kernel
theorem dX12_takesBack_30 : decode cX12_takesBack 30 = .ok (.iload_n 1, 1) := by decide +kernel
theorem dX12_takesBack_31 : decode cX12_takesBack 31 = .ok (.bipush 16, 2) := by decide +kernel
theorem dX12_takesBack_33 : decode cX12_takesBack 33 = .ok (.if_icmp .ge 38, 3) := by decide +kernel
theorem dX12_takesBack_36 : decode cX12_takesBack 36 = .ok (.aload_n 0, 1) := by decide +kernel
theorem dX12_takesBack_37 : decode cX12_takesBack 37 = .ok (.getfield 20, 3) := by decide +kernel
theorem dX12_takesBack_40 : decode cX12_takesBack 40 = .ok (.iload_n 1, 1) := by decide +kernel
theorem dX12_takesBack_41 : decode cX12_takesBack 41 = .ok (.aload_n 0, 1) := by decide +kernel
theorem dX12_takesBack_42 : decode cX12_takesBack 42 = .ok (.getfield 107, 3) := by decide +kernel
theorem dX12_takesBack_45 : decode cX12_takesBack 45 = .ok (.iconst 2, 1) := by decide +kernel
theorem dX12_takesBack_46 : decode cX12_takesBack 46 = .ok (.iload_n 1, 1) := by decide +kernel
theorem dX12_takesBack_47 : decode cX12_takesBack 47 = .ok (.iadd, 1) := by decide +kernel
theorem dX12_takesBack_48 : decode cX12_takesBack 48 = .ok (.iaload, 1) := by decide +kernel
theorem dX12_takesBack_49 : decode cX12_takesBack 49 = .ok (.iastore, 1) := by decide +kernel
theorem dX12_takesBack_50 : decode cX12_takesBack 50 = .ok (.aload_n 0, 1) := by decide +kernel
theorem dX12_takesBack_51 : decode cX12_takesBack 51 = .ok (.getfield 23, 3) := by decide +kernel
theorem dX12_takesBack_54 : decode cX12_takesBack 54 = .ok (.iload_n 1, 1) := by decide +kernel
theorem dX12_takesBack_55 : decode cX12_takesBack 55 = .ok (.aload_n 0, 1) := by decide +kernel
theorem dX12_takesBack_56 : decode cX12_takesBack 56 = .ok (.getfield 107, 3) := by decide +kernel
theorem dX12_takesBack_59 : decode cX12_takesBack 59 = .ok (.bipush 18, 2) := by decide +kernel
theorem dX12_takesBack_61 : decode cX12_takesBack 61 = .ok (.iload_n 1, 1) := by decide +kernel
theorem dX12_takesBack_62 : decode cX12_takesBack 62 = .ok (.iadd, 1) := by decide +kernel
theorem dX12_takesBack_63 : decode cX12_takesBack 63 = .ok (.iaload, 1) := by decide +kernel
theorem dX12_takesBack_64 : decode cX12_takesBack 64 = .ok (.iastore, 1) := by decide +kernel
theorem dX12_takesBack_65 : decode cX12_takesBack 65 = .ok (.iinc 1 1, 3) := by decide +kernel
theorem dX12_takesBack_68 : decode cX12_takesBack 68 = .ok (.goto (-38), 3) := by decide +kernel
theorem dX12_takesBack_71 : decode cX12_takesBack 71 = .ok (.iconst 0, 1) := by decide +kernel
theorem dX12_takesBack_72 : decode cX12_takesBack 72 = .ok (.istore_n 1, 1) := by decide +kernel
theorem dX12_takesBack_73 : decode cX12_takesBack 73 = .ok (.iload_n 1, 1) := by decide +kernel
theorem dX12_takesBack_74 : decode cX12_takesBack 74 = .ok (.bipush 96, 2) := by decide +kernel
theorem dX12_takesBack_76 : decode cX12_takesBack 76 = .ok (.if_icmp .ge 24, 3) := by decide +kernel
theorem dX12_takesBack_79 : decode cX12_takesBack 79 = .ok (.aload_n 0, 1) := by decide +kernel
theorem dX12_takesBack_80 : decode cX12_takesBack 80 = .ok (.getfield 32, 3) := by decide +kernel
theorem dX12_takesBack_83 : decode cX12_takesBack 83 = .ok (.iload_n 1, 1) := by decide +kernel
theorem dX12_takesBack_84 : decode cX12_takesBack 84 = .ok (.aload_n 0, 1) := by decide +kernel
theorem dX12_takesBack_85 : decode cX12_takesBack 85 = .ok (.getfield 107, 3) := by decide +kernel
theorem dX12_takesBack_88 : decode cX12_takesBack 88 = .ok (.bipush 34, 2) := by decide +kernel
theorem dX12_takesBack_90 : decode cX12_takesBack 90 = .ok (.iload_n 1, 1) := by decide +kernel
theorem dX12_takesBack_91 : decode cX12_takesBack 91 = .ok (.iadd, 1) := by decide +kernel
theorem dX12_takesBack_92 : decode cX12_takesBack 92 = .ok (.iaload, 1) := by decide +kernel
theorem dX12_takesBack_93 : decode cX12_takesBack 93 = .ok (.iastore, 1) := by decide +kernel
theorem dX12_takesBack_94 : decode cX12_takesBack 94 = .ok (.iinc 1 1, 3) := by decide +kernel
theorem dX12_takesBack_97 : decode cX12_takesBack 97 = .ok (.goto (-24), 3) := by decide +kernel
theorem dX12_takesBack_100 : decode cX12_takesBack 100 = .ok (.return_, 1) := by decide +kernel
theorem dX12_isAlike_0 : decode cX12_isAlike 0 = .ok (.iconst 1, 1) := by decide +kernel
theorem dX12_isAlike_1 : decode cX12_isAlike 1 = .ok (.istore_n 3, 1) := by decide +kernel
theorem dX12_isAlike_2 : decode cX12_isAlike 2 = .ok (.iconst 0, 1) := by decide +kernel
theorem dX12_isAlike_3 : decode cX12_isAlike 3 = .ok (.istore 4, 2) := by decide +kernel
theorem dX12_isAlike_5 : decode cX12_isAlike 5 = .ok (.iload 4, 2) := by decide +kernel
theorem dX12_isAlike_7 : decode cX12_isAlike 7 = .ok (.aload_n 0, 1) := by decide +kernel
theorem dX12_isAlike_8 : decode cX12_isAlike 8 = .ok (.getfield 154, 3) := by decide +kernel
theorem dX12_isAlike_11 : decode cX12_isAlike 11 = .ok (.if_icmp .ge 36, 3) := by decide +kernel
theorem dX12_isAlike_14 : decode cX12_isAlike 14 = .ok (.iload_n 3, 1) := by decide +kernel
theorem dX12_isAlike_15 : decode cX12_isAlike 15 = .ok (.ifCond .eq 24, 3) := by decide +kernel
theorem dX12_isAlike_18 : decode cX12_isAlike 18 = .ok (.aload_n 0, 1) := by decide +kernel
theorem dX12_isAlike_19 : decode cX12_isAlike 19 = .ok (.iload 4, 2) := by decide +kernel
theorem dX12_isAlike_21 : decode cX12_isAlike 21 = .ok (.iload_n 1, 1) := by decide +kernel
theorem dX12_isAlike_22 : decode cX12_isAlike 22 = .ok (.invokevirtual 302, 3) := by decide +kernel
theorem dX12_isAlike_25 : decode cX12_isAlike 25 = .ok (.aload_n 0, 1) := by decide +kernel
theorem dX12_isAlike_26 : decode cX12_isAlike 26 = .ok (.iload 4, 2) := by decide +kernel
theorem dX12_isAlike_28 : decode cX12_isAlike 28 = .ok (.iload_n 2, 1) := by decide +kernel
theorem dX12_isAlike_29 : decode cX12_isAlike 29 = .ok (.invokevirtual 302, 3) := by decide +kernel
theorem dX12_isAlike_32 : decode cX12_isAlike 32 = .ok (.if_icmp .ne 7, 3) := by decide +kernel
theorem dX12_isAlike_35 : decode cX12_isAlike 35 = .ok (.iconst 1, 1) := by decide +kernel
theorem dX12_isAlike_36 : decode cX12_isAlike 36 = .ok (.goto 4, 3) := by decide +kernel
theorem dX12_isAlike_39 : decode cX12_isAlike 39 = .ok (.iconst 0, 1) := by decide +kernel
theorem dX12_isAlike_40 : decode cX12_isAlike 40 = .ok (.istore_n 3, 1) := by decide +kernel
theorem dX12_isAlike_41 : decode cX12_isAlike 41 = .ok (.iinc 4 1, 3) := by decide +kernel
theorem dX12_isAlike_44 : decode cX12_isAlike 44 = .ok (.goto (-39), 3) := by decide +kernel
theorem dX12_isAlike_47 : decode cX12_isAlike 47 = .ok (.iload_n 3, 1) := by decide +kernel
theorem dX12_isAlike_48 : decode cX12_isAlike 48 = .ok (.ireturn, 1) := by decide +kernel
theorem dX12_tries_0 : decode cX12_tries 0 = .ok (.aload_n 0, 1) := by decide +kernel
theorem dX12_tries_1 : decode cX12_tries 1 = .ok (.invokevirtual 374, 3) := by decide +kernel
theorem dX12_tries_4 : decode cX12_tries 4 = .ok (.aload_n 0, 1) := by decide +kernel
theorem dX12_tries_5 : decode cX12_tries 5 = .ok (.getfield 161, 3) := by decide +kernel
theorem dX12_tries_8 : decode cX12_tries 8 = .ok (.istore 5, 2) := by decide +kernel
theorem dX12_tries_10 : decode cX12_tries 10 = .ok (.aload_n 0, 1) := by decide +kernel
theorem dX12_tries_11 : decode cX12_tries 11 = .ok (.getfield 164, 3) := by decide +kernel
theorem dX12_tries_14 : decode cX12_tries 14 = .ok (.istore 6, 2) := by decide +kernel
theorem dX12_tries_16 : decode cX12_tries 16 = .ok (.aload_n 0, 1) := by decide +kernel
theorem dX12_tries_17 : decode cX12_tries 17 = .ok (.iconst (-1), 1) := by decide +kernel
theorem dX12_tries_18 : decode cX12_tries 18 = .ok (.putfield 377, 3) := by decide +kernel
theorem dX12_tries_21 : decode cX12_tries 21 = .ok (.aload_n 0, 1) := by decide +kernel
theorem dX12_tries_22 : decode cX12_tries 22 = .ok (.iconst (-1), 1) := by decide +kernel
theorem dX12_tries_23 : decode cX12_tries 23 = .ok (.putfield 380, 3) := by decide +kernel
theorem dX12_tries_26 : decode cX12_tries 26 = .ok (.iconst 1, 1) := by decide +kernel
theorem dX12_tries_27 : decode cX12_tries 27 = .ok (.istore 7, 2) := by decide +kernel
theorem dX12_tries_29 : decode cX12_tries 29 = .ok (.iload 7, 2) := by decide +kernel
theorem dX12_tries_31 : decode cX12_tries 31 = .ok (.iload_n 1, 1) := by decide +kernel
theorem dX12_tries_32 : decode cX12_tries 32 = .ok (.if_icmp .gt 114, 3) := by decide +kernel
theorem dX12_tries_35 : decode cX12_tries 35 = .ok (.aload_n 0, 1) := by decide +kernel
theorem dX12_tries_36 : decode cX12_tries 36 = .ok (.getfield 377, 3) := by decide +kernel
theorem dX12_tries_39 : decode cX12_tries 39 = .ok (.iconst (-1), 1) := by decide +kernel
theorem dX12_tries_40 : decode cX12_tries 40 = .ok (.if_icmp .ne 106, 3) := by decide +kernel
theorem dX12_tries_43 : decode cX12_tries 43 = .ok (.iload_n 3, 1) := by decide +kernel
theorem dX12_tries_44 : decode cX12_tries 44 = .ok (.iconst (-1), 1) := by decide +kernel
theorem dX12_tries_45 : decode cX12_tries 45 = .ok (.if_icmp .eq 24, 3) := by decide +kernel
theorem dX12_tries_48 : decode cX12_tries 48 = .ok (.aload_n 0, 1) := by decide +kernel
theorem dX12_tries_49 : decode cX12_tries 49 = .ok (.iload 7, 2) := by decide +kernel
theorem dX12_tries_51 : decode cX12_tries 51 = .ok (.iconst 1, 1) := by decide +kernel
theorem dX12_tries_52 : decode cX12_tries 52 = .ok (.isub, 1) := by decide +kernel
theorem dX12_tries_53 : decode cX12_tries 53 = .ok (.iload_n 2, 1) := by decide +kernel
theorem dX12_tries_54 : decode cX12_tries 54 = .ok (.idiv, 1) := by decide +kernel
theorem dX12_tries_55 : decode cX12_tries 55 = .ok (.iconst 2, 1) := by decide +kernel
theorem dX12_tries_56 : decode cX12_tries 56 = .ok (.irem, 1) := by decide +kernel
theorem dX12_tries_57 : decode cX12_tries 57 = .ok (.ifCond .ne 7, 3) := by decide +kernel
theorem dX12_tries_60 : decode cX12_tries 60 = .ok (.iload_n 3, 1) := by decide +kernel
theorem dX12_tries_61 : decode cX12_tries 61 = .ok (.goto 5, 3) := by decide +kernel
theorem dX12_tries_64 : decode cX12_tries 64 = .ok (.iload 6, 2) := by decide +kernel
theorem dX12_tries_66 : decode cX12_tries 66 = .ok (.putfield 164, 3) := by decide +kernel
theorem dX12_tries_69 : decode cX12_tries 69 = .ok (.aload_n 0, 1) := by decide +kernel
theorem dX12_tries_70 : decode cX12_tries 70 = .ok (.invokevirtual 359, 3) := by decide +kernel
theorem dX12_tries_73 : decode cX12_tries 73 = .ok (.aload_n 0, 1) := by decide +kernel
theorem dX12_tries_74 : decode cX12_tries 74 = .ok (.getfield 161, 3) := by decide +kernel
theorem dX12_tries_77 : decode cX12_tries 77 = .ok (.iload 4, 2) := by decide +kernel
theorem dX12_tries_79 : decode cX12_tries 79 = .ok (.isub, 1) := by decide +kernel
theorem dX12_tries_80 : decode cX12_tries 80 = .ok (.istore 8, 2) := by decide +kernel
theorem dX12_tries_82 : decode cX12_tries 82 = .ok (.iload 8, 2) := by decide +kernel
theorem dX12_tries_84 : decode cX12_tries 84 = .ok (.iload 5, 2) := by decide +kernel
theorem dX12_tries_86 : decode cX12_tries 86 = .ok (.if_icmp .lt 54, 3) := by decide +kernel
theorem dX12_tries_89 : decode cX12_tries 89 = .ok (.aload_n 0, 1) := by decide +kernel
theorem dX12_tries_90 : decode cX12_tries 90 = .ok (.getfield 377, 3) := by decide +kernel
theorem dX12_tries_93 : decode cX12_tries 93 = .ok (.iconst (-1), 1) := by decide +kernel
theorem dX12_tries_94 : decode cX12_tries 94 = .ok (.if_icmp .ne 46, 3) := by decide +kernel
theorem dX12_tries_97 : decode cX12_tries 97 = .ok (.aload_n 0, 1) := by decide +kernel
theorem dX12_tries_98 : decode cX12_tries 98 = .ok (.iload 8, 2) := by decide +kernel
theorem dX12_tries_100 : decode cX12_tries 100 = .ok (.aload_n 0, 1) := by decide +kernel
theorem dX12_tries_101 : decode cX12_tries 101 = .ok (.getfield 161, 3) := by decide +kernel
theorem dX12_tries_104 : decode cX12_tries 104 = .ok (.invokevirtual 383, 3) := by decide +kernel
theorem dX12_tries_107 : decode cX12_tries 107 = .ok (.ifCond .ne 6, 3) := by decide +kernel
theorem dX12_tries_110 : decode cX12_tries 110 = .ok (.goto 20, 3) := by decide +kernel
theorem dX12_tries_113 : decode cX12_tries 113 = .ok (.aload_n 0, 1) := by decide +kernel
theorem dX12_tries_114 : decode cX12_tries 114 = .ok (.iload 7, 2) := by decide +kernel
theorem dX12_tries_116 : decode cX12_tries 116 = .ok (.putfield 377, 3) := by decide +kernel
theorem dX12_tries_119 : decode cX12_tries 119 = .ok (.aload_n 0, 1) := by decide +kernel
theorem dX12_tries_120 : decode cX12_tries 120 = .ok (.aload_n 0, 1) := by decide +kernel
theorem dX12_tries_121 : decode cX12_tries 121 = .ok (.getfield 161, 3) := by decide +kernel
theorem dX12_tries_124 : decode cX12_tries 124 = .ok (.iload 8, 2) := by decide +kernel
theorem dX12_tries_126 : decode cX12_tries 126 = .ok (.isub, 1) := by decide +kernel
theorem dX12_tries_127 : decode cX12_tries 127 = .ok (.putfield 380, 3) := by decide +kernel
theorem dX12_tries_130 : decode cX12_tries 130 = .ok (.iload 8, 2) := by decide +kernel
theorem dX12_tries_132 : decode cX12_tries 132 = .ok (.iload 4, 2) := by decide +kernel
theorem dX12_tries_134 : decode cX12_tries 134 = .ok (.isub, 1) := by decide +kernel
theorem dX12_tries_135 : decode cX12_tries 135 = .ok (.istore 8, 2) := by decide +kernel
theorem dX12_tries_137 : decode cX12_tries 137 = .ok (.goto (-55), 3) := by decide +kernel
theorem dX12_tries_140 : decode cX12_tries 140 = .ok (.iinc 7 1, 3) := by decide +kernel
theorem dX12_tries_143 : decode cX12_tries 143 = .ok (.goto (-114), 3) := by decide +kernel
theorem dX12_tries_146 : decode cX12_tries 146 = .ok (.aload_n 0, 1) := by decide +kernel
theorem dX12_tries_147 : decode cX12_tries 147 = .ok (.invokevirtual 386, 3) := by decide +kernel
theorem dX12_tries_150 : decode cX12_tries 150 = .ok (.return_, 1) := by decide +kernel
theorem dX12_mayTry_0 : decode cX12_mayTry 0 = .ok (.aload_n 0, 1) := by decide +kernel
theorem dX12_mayTry_1 : decode cX12_mayTry 1 = .ok (.getfield 154, 3) := by decide +kernel
theorem dX12_mayTry_4 : decode cX12_mayTry 4 = .ok (.ifCond .le 15, 3) := by decide +kernel
theorem dX12_mayTry_7 : decode cX12_mayTry 7 = .ok (.aload_n 0, 1) := by decide +kernel
theorem dX12_mayTry_8 : decode cX12_mayTry 8 = .ok (.getfield 53, 3) := by decide +kernel
theorem dX12_mayTry_11 : decode cX12_mayTry 11 = .ok (.iconst (-1), 1) := by decide +kernel
theorem dX12_mayTry_12 : decode cX12_mayTry 12 = .ok (.if_icmp .eq 7, 3) := by decide +kernel
theorem dX12_mayTry_15 : decode cX12_mayTry 15 = .ok (.iconst 1, 1) := by decide +kernel
theorem dX12_mayTry_16 : decode cX12_mayTry 16 = .ok (.goto 4, 3) := by decide +kernel
theorem dX12_mayTry_19 : decode cX12_mayTry 19 = .ok (.iconst 0, 1) := by decide +kernel
theorem dX12_mayTry_20 : decode cX12_mayTry 20 = .ok (.ireturn, 1) := by decide +kernel
theorem dX12_round_0 : decode cX12_round 0 = .ok (.iload_n 1, 1) := by decide +kernel
theorem dX12_round_1 : decode cX12_round 1 = .ok (.iconst 1, 1) := by decide +kernel
theorem dX12_round_2 : decode cX12_round 2 = .ok (.bipush 100, 2) := by decide +kernel
theorem dX12_round_4 : decode cX12_round 4 = .ok (.invokestatic 157, 3) := by decide +kernel
theorem dX12_round_7 : decode cX12_round 7 = .ok (.ifCond .eq 19, 3) := by decide +kernel
theorem dX12_round_10 : decode cX12_round 10 = .ok (.iload_n 2, 1) := by decide +kernel
theorem dX12_round_11 : decode cX12_round 11 = .ok (.iconst 0, 1) := by decide +kernel
theorem dX12_round_12 : decode cX12_round 12 = .ok (.iconst 1, 1) := by decide +kernel
theorem dX12_round_13 : decode cX12_round 13 = .ok (.invokestatic 157, 3) := by decide +kernel
theorem dX12_round_16 : decode cX12_round 16 = .ok (.ifCond .eq 10, 3) := by decide +kernel
theorem dX12_round_19 : decode cX12_round 19 = .ok (.aload_n 0, 1) := by decide +kernel
theorem dX12_round_20 : decode cX12_round 20 = .ok (.invokevirtual 389, 3) := by decide +kernel
theorem dX12_round_23 : decode cX12_round 23 = .ok (.ifCond .ne 5, 3) := by decide +kernel
theorem dX12_round_26 : decode cX12_round 26 = .ok (.iconst (-1), 1) := by decide +kernel
theorem dX12_round_27 : decode cX12_round 27 = .ok (.ireturn, 1) := by decide +kernel
theorem dX12_round_28 : decode cX12_round 28 = .ok (.aload_n 0, 1) := by decide +kernel
theorem dX12_round_29 : decode cX12_round 29 = .ok (.iload_n 1, 1) := by decide +kernel
theorem dX12_round_30 : decode cX12_round 30 = .ok (.iconst 1, 1) := by decide +kernel
theorem dX12_round_31 : decode cX12_round 31 = .ok (.iconst (-1), 1) := by decide +kernel
theorem dX12_round_32 : decode cX12_round 32 = .ok (.iconst 1, 1) := by decide +kernel
theorem dX12_round_33 : decode cX12_round 33 = .ok (.invokevirtual 392, 3) := by decide +kernel
theorem dX12_round_36 : decode cX12_round 36 = .ok (.iload_n 2, 1) := by decide +kernel
theorem dX12_round_37 : decode cX12_round 37 = .ok (.ifCond .ne 10, 3) := by decide +kernel
theorem dX12_round_40 : decode cX12_round 40 = .ok (.aload_n 0, 1) := by decide +kernel
theorem dX12_round_41 : decode cX12_round 41 = .ok (.getfield 377, 3) := by decide +kernel
theorem dX12_round_44 : decode cX12_round 44 = .ok (.goto 7, 3) := by decide +kernel
theorem dX12_round_47 : decode cX12_round 47 = .ok (.aload_n 0, 1) := by decide +kernel
theorem dX12_round_48 : decode cX12_round 48 = .ok (.getfield 380, 3) := by decide +kernel
theorem dX12_round_51 : decode cX12_round 51 = .ok (.ireturn, 1) := by decide +kernel
theorem dX12_pushed_0 : decode cX12_pushed 0 = .ok (.iload_n 1, 1) := by decide +kernel
theorem dX12_pushed_1 : decode cX12_pushed 1 = .ok (.iconst 1, 1) := by decide +kernel
theorem dX12_pushed_2 : decode cX12_pushed 2 = .ok (.bipush 100, 2) := by decide +kernel
theorem dX12_pushed_4 : decode cX12_pushed 4 = .ok (.invokestatic 157, 3) := by decide +kernel
theorem dX12_pushed_7 : decode cX12_pushed 7 = .ok (.ifCond .eq 40, 3) := by decide +kernel
theorem dX12_pushed_10 : decode cX12_pushed 10 = .ok (.iload_n 2, 1) := by decide +kernel
theorem dX12_pushed_11 : decode cX12_pushed 11 = .ok (.iconst 1, 1) := by decide +kernel
theorem dX12_pushed_12 : decode cX12_pushed 12 = .ok (.bipush 20, 2) := by decide +kernel
theorem dX12_pushed_14 : decode cX12_pushed 14 = .ok (.invokestatic 157, 3) := by decide +kernel
theorem dX12_pushed_17 : decode cX12_pushed 17 = .ok (.ifCond .eq 30, 3) := by decide +kernel
theorem dX12_pushed_20 : decode cX12_pushed 20 = .ok (.iload_n 3, 1) := by decide +kernel
theorem dX12_pushed_21 : decode cX12_pushed 21 = .ok (.iconst 0, 1) := by decide +kernel
theorem dX12_pushed_22 : decode cX12_pushed 22 = .ok (.bipush 99, 2) := by decide +kernel
theorem dX12_pushed_24 : decode cX12_pushed 24 = .ok (.invokestatic 157, 3) := by decide +kernel
theorem dX12_pushed_27 : decode cX12_pushed 27 = .ok (.ifCond .eq 20, 3) := by decide +kernel
theorem dX12_pushed_30 : decode cX12_pushed 30 = .ok (.iload 4, 2) := by decide +kernel
theorem dX12_pushed_32 : decode cX12_pushed 32 = .ok (.iconst 0, 1) := by decide +kernel
theorem dX12_pushed_33 : decode cX12_pushed 33 = .ok (.iconst 1, 1) := by decide +kernel
theorem dX12_pushed_34 : decode cX12_pushed 34 = .ok (.invokestatic 157, 3) := by decide +kernel
theorem dX12_pushed_37 : decode cX12_pushed 37 = .ok (.ifCond .eq 10, 3) := by decide +kernel
theorem dX12_pushed_40 : decode cX12_pushed 40 = .ok (.aload_n 0, 1) := by decide +kernel
theorem dX12_pushed_41 : decode cX12_pushed 41 = .ok (.invokevirtual 389, 3) := by decide +kernel
theorem dX12_pushed_44 : decode cX12_pushed 44 = .ok (.ifCond .ne 5, 3) := by decide +kernel
theorem dX12_pushed_47 : decode cX12_pushed 47 = .ok (.iconst (-1), 1) := by decide +kernel
theorem dX12_pushed_48 : decode cX12_pushed 48 = .ok (.ireturn, 1) := by decide +kernel
theorem dX12_pushed_49 : decode cX12_pushed 49 = .ok (.aload_n 0, 1) := by decide +kernel
theorem dX12_pushed_50 : decode cX12_pushed 50 = .ok (.iload_n 1, 1) := by decide +kernel
theorem dX12_pushed_51 : decode cX12_pushed 51 = .ok (.iload_n 2, 1) := by decide +kernel
theorem dX12_pushed_52 : decode cX12_pushed 52 = .ok (.iload_n 3, 1) := by decide +kernel
theorem dX12_pushed_53 : decode cX12_pushed 53 = .ok (.iconst 2, 1) := by decide +kernel
theorem dX12_pushed_54 : decode cX12_pushed 54 = .ok (.iload_n 2, 1) := by decide +kernel
theorem dX12_pushed_55 : decode cX12_pushed 55 = .ok (.imul, 1) := by decide +kernel
theorem dX12_pushed_56 : decode cX12_pushed 56 = .ok (.invokevirtual 392, 3) := by decide +kernel
theorem dX12_pushed_59 : decode cX12_pushed 59 = .ok (.iload 4, 2) := by decide +kernel
theorem dX12_pushed_61 : decode cX12_pushed 61 = .ok (.ifCond .ne 10, 3) := by decide +kernel
theorem dX12_pushed_64 : decode cX12_pushed 64 = .ok (.aload_n 0, 1) := by decide +kernel
theorem dX12_pushed_65 : decode cX12_pushed 65 = .ok (.getfield 377, 3) := by decide +kernel
theorem dX12_pushed_68 : decode cX12_pushed 68 = .ok (.goto 7, 3) := by decide +kernel
theorem dX12_pushed_71 : decode cX12_pushed 71 = .ok (.aload_n 0, 1) := by decide +kernel
theorem dX12_pushed_72 : decode cX12_pushed 72 = .ok (.getfield 380, 3) := by decide +kernel
theorem dX12_pushed_75 : decode cX12_pushed 75 = .ok (.ireturn, 1) := by decide +kernel
theorem dX12_led_0 : decode cX12_led 0 = .ok (.aload_n 0, 1) := by decide +kernel
theorem dX12_led_1 : decode cX12_led 1 = .ok (.iload_n 1, 1) := by decide +kernel
theorem dX12_led_2 : decode cX12_led 2 = .ok (.invokevirtual 167, 3) := by decide +kernel
theorem dX12_led_5 : decode cX12_led 5 = .ok (.ifCond .eq 12, 3) := by decide +kernel
theorem dX12_led_8 : decode cX12_led 8 = .ok (.iload_n 2, 1) := by decide +kernel
theorem dX12_led_9 : decode cX12_led 9 = .ok (.iconst 0, 1) := by decide +kernel
theorem dX12_led_10 : decode cX12_led 10 = .ok (.iconst 3, 1) := by decide +kernel
theorem dX12_led_11 : decode cX12_led 11 = .ok (.invokestatic 157, 3) := by decide +kernel
theorem dX12_led_14 : decode cX12_led 14 = .ok (.ifCond .ne 5, 3) := by decide +kernel
theorem dX12_led_17 : decode cX12_led 17 = .ok (.iconst (-1), 1) := by decide +kernel
theorem dX12_led_18 : decode cX12_led 18 = .ok (.ireturn, 1) := by decide +kernel
theorem dX12_led_19 : decode cX12_led 19 = .ok (.iconst 0, 1) := by decide +kernel
theorem dX12_led_20 : decode cX12_led 20 = .ok (.istore_n 3, 1) := by decide +kernel
theorem dX12_led_21 : decode cX12_led 21 = .ok (.iconst 1, 1) := by decide +kernel
theorem dX12_led_22 : decode cX12_led 22 = .ok (.istore 4, 2) := by decide +kernel
theorem dX12_led_24 : decode cX12_led 24 = .ok (.iload 4, 2) := by decide +kernel
theorem dX12_led_26 : decode cX12_led 26 = .ok (.aload_n 0, 1) := by decide +kernel
theorem dX12_led_27 : decode cX12_led 27 = .ok (.getfield 161, 3) := by decide +kernel
theorem dX12_led_30 : decode cX12_led 30 = .ok (.if_icmp .gt 123, 3) := by decide +kernel
theorem dX12_led_33 : decode cX12_led 33 = .ok (.aload_n 0, 1) := by decide +kernel
theorem dX12_led_34 : decode cX12_led 34 = .ok (.iload_n 1, 1) := by decide +kernel
theorem dX12_led_35 : decode cX12_led 35 = .ok (.iload 4, 2) := by decide +kernel
theorem dX12_led_37 : decode cX12_led 37 = .ok (.iconst 1, 1) := by decide +kernel
theorem dX12_led_38 : decode cX12_led 38 = .ok (.isub, 1) := by decide +kernel
theorem dX12_led_39 : decode cX12_led 39 = .ok (.invokevirtual 302, 3) := by decide +kernel
theorem dX12_led_42 : decode cX12_led 42 = .ok (.istore 5, 2) := by decide +kernel
theorem dX12_led_44 : decode cX12_led 44 = .ok (.aload_n 0, 1) := by decide +kernel
theorem dX12_led_45 : decode cX12_led 45 = .ok (.iload_n 1, 1) := by decide +kernel
theorem dX12_led_46 : decode cX12_led 46 = .ok (.iload 4, 2) := by decide +kernel
theorem dX12_led_48 : decode cX12_led 48 = .ok (.invokevirtual 302, 3) := by decide +kernel
theorem dX12_led_51 : decode cX12_led 51 = .ok (.istore 6, 2) := by decide +kernel
theorem dX12_led_53 : decode cX12_led 53 = .ok (.iload 5, 2) := by decide +kernel
theorem dX12_led_55 : decode cX12_led 55 = .ok (.iload 6, 2) := by decide +kernel
theorem dX12_led_57 : decode cX12_led 57 = .ok (.if_icmp .ne 6, 3) := by decide +kernel
theorem dX12_led_60 : decode cX12_led 60 = .ok (.goto 87, 3) := by decide +kernel
theorem dX12_led_63 : decode cX12_led 63 = .ok (.iload_n 2, 1) := by decide +kernel
theorem dX12_led_64 : decode cX12_led 64 = .ok (.iconst 3, 1) := by decide +kernel
theorem dX12_led_65 : decode cX12_led 65 = .ok (.if_icmp .ne 7, 3) := by decide +kernel
theorem dX12_led_68 : decode cX12_led 68 = .ok (.iconst (-1), 1) := by decide +kernel
theorem dX12_led_69 : decode cX12_led 69 = .ok (.goto 13, 3) := by decide +kernel
theorem dX12_led_72 : decode cX12_led 72 = .ok (.aload_n 0, 1) := by decide +kernel
theorem dX12_led_73 : decode cX12_led 73 = .ok (.iload_n 1, 1) := by decide +kernel
theorem dX12_led_74 : decode cX12_led 74 = .ok (.iload_n 2, 1) := by decide +kernel
theorem dX12_led_75 : decode cX12_led 75 = .ok (.iload 4, 2) := by decide +kernel
theorem dX12_led_77 : decode cX12_led 77 = .ok (.iconst 1, 1) := by decide +kernel
theorem dX12_led_78 : decode cX12_led 78 = .ok (.isub, 1) := by decide +kernel
theorem dX12_led_79 : decode cX12_led 79 = .ok (.invokevirtual 313, 3) := by decide +kernel
theorem dX12_led_82 : decode cX12_led 82 = .ok (.istore 7, 2) := by decide +kernel
theorem dX12_led_84 : decode cX12_led 84 = .ok (.iload 7, 2) := by decide +kernel
theorem dX12_led_86 : decode cX12_led 86 = .ok (.iconst (-1), 1) := by decide +kernel
theorem dX12_led_87 : decode cX12_led 87 = .ok (.if_icmp .ne 7, 3) := by decide +kernel
theorem dX12_led_90 : decode cX12_led 90 = .ok (.iconst 0, 1) := by decide +kernel
theorem dX12_led_91 : decode cX12_led 91 = .ok (.goto 20, 3) := by decide +kernel
theorem dX12_led_94 : decode cX12_led 94 = .ok (.iload 6, 2) := by decide +kernel
theorem dX12_led_96 : decode cX12_led 96 = .ok (.iload 7, 2) := by decide +kernel
theorem dX12_led_98 : decode cX12_led 98 = .ok (.isub, 1) := by decide +kernel
theorem dX12_led_99 : decode cX12_led 99 = .ok (.invokestatic 337, 3) := by decide +kernel
theorem dX12_led_102 : decode cX12_led 102 = .ok (.iload 5, 2) := by decide +kernel
theorem dX12_led_104 : decode cX12_led 104 = .ok (.iload 7, 2) := by decide +kernel
theorem dX12_led_106 : decode cX12_led 106 = .ok (.isub, 1) := by decide +kernel
theorem dX12_led_107 : decode cX12_led 107 = .ok (.invokestatic 337, 3) := by decide +kernel
theorem dX12_led_110 : decode cX12_led 110 = .ok (.isub, 1) := by decide +kernel
theorem dX12_led_111 : decode cX12_led 111 = .ok (.istore 8, 2) := by decide +kernel
theorem dX12_led_113 : decode cX12_led 113 = .ok (.iload_n 3, 1) := by decide +kernel
theorem dX12_led_114 : decode cX12_led 114 = .ok (.iload_n 2, 1) := by decide +kernel
theorem dX12_led_115 : decode cX12_led 115 = .ok (.iconst 3, 1) := by decide +kernel
theorem dX12_led_116 : decode cX12_led 116 = .ok (.if_icmp .eq 21, 3) := by decide +kernel
theorem dX12_led_119 : decode cX12_led 119 = .ok (.iload_n 2, 1) := by decide +kernel
theorem dX12_led_120 : decode cX12_led 120 = .ok (.iconst 1, 1) := by decide +kernel
theorem dX12_led_121 : decode cX12_led 121 = .ok (.if_icmp .ne 11, 3) := by decide +kernel
theorem dX12_led_124 : decode cX12_led 124 = .ok (.iload 8, 2) := by decide +kernel
theorem dX12_led_126 : decode cX12_led 126 = .ok (.ifCond .le 15, 3) := by decide +kernel
theorem dX12_led_129 : decode cX12_led 129 = .ok (.goto 8, 3) := by decide +kernel
theorem dX12_led_132 : decode cX12_led 132 = .ok (.iload 8, 2) := by decide +kernel
theorem dX12_led_134 : decode cX12_led 134 = .ok (.ifCond .ge 7, 3) := by decide +kernel
theorem dX12_led_137 : decode cX12_led 137 = .ok (.iconst 1, 1) := by decide +kernel
theorem dX12_led_138 : decode cX12_led 138 = .ok (.goto 4, 3) := by decide +kernel
theorem dX12_led_141 : decode cX12_led 141 = .ok (.iconst 0, 1) := by decide +kernel
theorem dX12_led_142 : decode cX12_led 142 = .ok (.invokestatic 396, 3) := by decide +kernel
theorem dX12_led_145 : decode cX12_led 145 = .ok (.iadd, 1) := by decide +kernel
theorem dX12_led_146 : decode cX12_led 146 = .ok (.istore_n 3, 1) := by decide +kernel
theorem dX12_led_147 : decode cX12_led 147 = .ok (.iinc 4 1, 3) := by decide +kernel
theorem dX12_led_150 : decode cX12_led 150 = .ok (.goto (-126), 3) := by decide +kernel
theorem dX12_led_153 : decode cX12_led 153 = .ok (.iload_n 3, 1) := by decide +kernel
theorem dX12_led_154 : decode cX12_led 154 = .ok (.ireturn, 1) := by decide +kernel
theorem dX12_isAlone_0 : decode cX12_isAlone 0 = .ok (.iconst 1, 1) := by decide +kernel
theorem dX12_isAlone_1 : decode cX12_isAlone 1 = .ok (.istore 4, 2) := by decide +kernel
theorem dX12_isAlone_3 : decode cX12_isAlone 3 = .ok (.iconst 0, 1) := by decide +kernel
theorem dX12_isAlone_4 : decode cX12_isAlone 4 = .ok (.istore 5, 2) := by decide +kernel
theorem dX12_isAlone_6 : decode cX12_isAlone 6 = .ok (.iload 5, 2) := by decide +kernel
theorem dX12_isAlone_8 : decode cX12_isAlone 8 = .ok (.aload_n 0, 1) := by decide +kernel
theorem dX12_isAlone_9 : decode cX12_isAlone 9 = .ok (.getfield 154, 3) := by decide +kernel
theorem dX12_isAlone_12 : decode cX12_isAlone 12 = .ok (.if_icmp .ge 48, 3) := by decide +kernel
theorem dX12_isAlone_15 : decode cX12_isAlone 15 = .ok (.iload 4, 2) := by decide +kernel
theorem dX12_isAlone_17 : decode cX12_isAlone 17 = .ok (.ifCond .eq 34, 3) := by decide +kernel
theorem dX12_isAlone_20 : decode cX12_isAlone 20 = .ok (.iload 5, 2) := by decide +kernel
theorem dX12_isAlone_22 : decode cX12_isAlone 22 = .ok (.iload_n 1, 1) := by decide +kernel
theorem dX12_isAlone_23 : decode cX12_isAlone 23 = .ok (.if_icmp .eq 24, 3) := by decide +kernel
theorem dX12_isAlone_26 : decode cX12_isAlone 26 = .ok (.aload_n 0, 1) := by decide +kernel
theorem dX12_isAlone_27 : decode cX12_isAlone 27 = .ok (.iload 5, 2) := by decide +kernel
theorem dX12_isAlone_29 : decode cX12_isAlone 29 = .ok (.iload_n 2, 1) := by decide +kernel
theorem dX12_isAlone_30 : decode cX12_isAlone 30 = .ok (.invokevirtual 302, 3) := by decide +kernel
theorem dX12_isAlone_33 : decode cX12_isAlone 33 = .ok (.aload_n 0, 1) := by decide +kernel
theorem dX12_isAlone_34 : decode cX12_isAlone 34 = .ok (.iload_n 1, 1) := by decide +kernel
theorem dX12_isAlone_35 : decode cX12_isAlone 35 = .ok (.iload_n 2, 1) := by decide +kernel
theorem dX12_isAlone_36 : decode cX12_isAlone 36 = .ok (.invokevirtual 302, 3) := by decide +kernel
theorem dX12_isAlone_39 : decode cX12_isAlone 39 = .ok (.isub, 1) := by decide +kernel
theorem dX12_isAlone_40 : decode cX12_isAlone 40 = .ok (.invokestatic 337, 3) := by decide +kernel
theorem dX12_isAlone_43 : decode cX12_isAlone 43 = .ok (.iload_n 3, 1) := by decide +kernel
theorem dX12_isAlone_44 : decode cX12_isAlone 44 = .ok (.if_icmp .lt 7, 3) := by decide +kernel
theorem dX12_isAlone_47 : decode cX12_isAlone 47 = .ok (.iconst 1, 1) := by decide +kernel
theorem dX12_isAlone_48 : decode cX12_isAlone 48 = .ok (.goto 4, 3) := by decide +kernel
theorem dX12_isAlone_51 : decode cX12_isAlone 51 = .ok (.iconst 0, 1) := by decide +kernel
theorem dX12_isAlone_52 : decode cX12_isAlone 52 = .ok (.istore 4, 2) := by decide +kernel
theorem dX12_isAlone_54 : decode cX12_isAlone 54 = .ok (.iinc 5 1, 3) := by decide +kernel
theorem dX12_isAlone_57 : decode cX12_isAlone 57 = .ok (.goto (-51), 3) := by decide +kernel
theorem dX12_isAlone_60 : decode cX12_isAlone 60 = .ok (.iload 4, 2) := by decide +kernel
theorem dX12_isAlone_62 : decode cX12_isAlone 62 = .ok (.ireturn, 1) := by decide +kernel
theorem dX12_endsBy_0 : decode cX12_endsBy 0 = .ok (.iload_n 2, 1) := by decide +kernel
theorem dX12_endsBy_1 : decode cX12_endsBy 1 = .ok (.iconst 1, 1) := by decide +kernel
theorem dX12_endsBy_2 : decode cX12_endsBy 2 = .ok (.iadd, 1) := by decide +kernel
theorem dX12_endsBy_3 : decode cX12_endsBy 3 = .ok (.istore 5, 2) := by decide +kernel
theorem dX12_endsBy_5 : decode cX12_endsBy 5 = .ok (.iload 5, 2) := by decide +kernel
theorem dX12_endsBy_7 : decode cX12_endsBy 7 = .ok (.aload_n 0, 1) := by decide +kernel
theorem dX12_endsBy_8 : decode cX12_endsBy 8 = .ok (.getfield 161, 3) := by decide +kernel
theorem dX12_endsBy_11 : decode cX12_endsBy 11 = .ok (.iload_n 2, 1) := by decide +kernel
theorem dX12_endsBy_12 : decode cX12_endsBy 12 = .ok (.iload 4, 2) := by decide +kernel
theorem dX12_endsBy_14 : decode cX12_endsBy 14 = .ok (.iadd, 1) := by decide +kernel
theorem dX12_endsBy_15 : decode cX12_endsBy 15 = .ok (.invokestatic 334, 3) := by decide +kernel
theorem dX12_endsBy_18 : decode cX12_endsBy 18 = .ok (.if_icmp .gt 40, 3) := by decide +kernel
theorem dX12_endsBy_21 : decode cX12_endsBy 21 = .ok (.aload_n 0, 1) := by decide +kernel
theorem dX12_endsBy_22 : decode cX12_endsBy 22 = .ok (.iload_n 1, 1) := by decide +kernel
theorem dX12_endsBy_23 : decode cX12_endsBy 23 = .ok (.iload 5, 2) := by decide +kernel
theorem dX12_endsBy_25 : decode cX12_endsBy 25 = .ok (.invokevirtual 302, 3) := by decide +kernel
theorem dX12_endsBy_28 : decode cX12_endsBy 28 = .ok (.aload_n 0, 1) := by decide +kernel
theorem dX12_endsBy_29 : decode cX12_endsBy 29 = .ok (.iload_n 1, 1) := by decide +kernel
theorem dX12_endsBy_30 : decode cX12_endsBy 30 = .ok (.iload_n 2, 1) := by decide +kernel
theorem dX12_endsBy_31 : decode cX12_endsBy 31 = .ok (.invokevirtual 302, 3) := by decide +kernel
theorem dX12_endsBy_34 : decode cX12_endsBy 34 = .ok (.if_icmp .eq 5, 3) := by decide +kernel
theorem dX12_endsBy_37 : decode cX12_endsBy 37 = .ok (.iconst 2, 1) := by decide +kernel
theorem dX12_endsBy_38 : decode cX12_endsBy 38 = .ok (.ireturn, 1) := by decide +kernel
theorem dX12_endsBy_39 : decode cX12_endsBy 39 = .ok (.aload_n 0, 1) := by decide +kernel
theorem dX12_endsBy_40 : decode cX12_endsBy 40 = .ok (.iload_n 1, 1) := by decide +kernel
theorem dX12_endsBy_41 : decode cX12_endsBy 41 = .ok (.iload 5, 2) := by decide +kernel
theorem dX12_endsBy_43 : decode cX12_endsBy 43 = .ok (.iload_n 3, 1) := by decide +kernel
theorem dX12_endsBy_44 : decode cX12_endsBy 44 = .ok (.invokevirtual 400, 3) := by decide +kernel
theorem dX12_endsBy_47 : decode cX12_endsBy 47 = .ok (.ifCond .ne 5, 3) := by decide +kernel
theorem dX12_endsBy_50 : decode cX12_endsBy 50 = .ok (.iconst 1, 1) := by decide +kernel
theorem dX12_endsBy_51 : decode cX12_endsBy 51 = .ok (.ireturn, 1) := by decide +kernel
theorem dX12_endsBy_52 : decode cX12_endsBy 52 = .ok (.iinc 5 1, 3) := by decide +kernel
theorem dX12_endsBy_55 : decode cX12_endsBy 55 = .ok (.goto (-50), 3) := by decide +kernel
theorem dX12_endsBy_58 : decode cX12_endsBy 58 = .ok (.iconst 0, 1) := by decide +kernel
theorem dX12_endsBy_59 : decode cX12_endsBy 59 = .ok (.ireturn, 1) := by decide +kernel
theorem dX12_alone_0 : decode cX12_alone 0 = .ok (.iload_n 1, 1) := by decide +kernel
theorem dX12_alone_1 : decode cX12_alone 1 = .ok (.iconst 1, 1) := by decide +kernel
theorem dX12_alone_2 : decode cX12_alone 2 = .ok (.bipush 60, 2) := by decide +kernel
theorem dX12_alone_4 : decode cX12_alone 4 = .ok (.invokestatic 157, 3) := by decide +kernel
theorem dX12_alone_7 : decode cX12_alone 7 = .ok (.ifCond .eq 22, 3) := by decide +kernel
theorem dX12_alone_10 : decode cX12_alone 10 = .ok (.iload_n 2, 1) := by decide +kernel
theorem dX12_alone_11 : decode cX12_alone 11 = .ok (.iconst 1, 1) := by decide +kernel
theorem dX12_alone_12 : decode cX12_alone 12 = .ok (.bipush 20, 2) := by decide +kernel
theorem dX12_alone_14 : decode cX12_alone 14 = .ok (.invokestatic 157, 3) := by decide +kernel
theorem dX12_alone_17 : decode cX12_alone 17 = .ok (.ifCond .eq 12, 3) := by decide +kernel
theorem dX12_alone_20 : decode cX12_alone 20 = .ok (.iload_n 3, 1) := by decide +kernel
theorem dX12_alone_21 : decode cX12_alone 21 = .ok (.iconst 0, 1) := by decide +kernel
theorem dX12_alone_22 : decode cX12_alone 22 = .ok (.iconst 2, 1) := by decide +kernel
theorem dX12_alone_23 : decode cX12_alone 23 = .ok (.invokestatic 157, 3) := by decide +kernel
theorem dX12_alone_26 : decode cX12_alone 26 = .ok (.ifCond .ne 5, 3) := by decide +kernel
theorem dX12_alone_29 : decode cX12_alone 29 = .ok (.iconst (-1), 1) := by decide +kernel
theorem dX12_alone_30 : decode cX12_alone 30 = .ok (.ireturn, 1) := by decide +kernel
theorem dX12_alone_31 : decode cX12_alone 31 = .ok (.iconst 0, 1) := by decide +kernel
theorem dX12_alone_32 : decode cX12_alone 32 = .ok (.istore 4, 2) := by decide +kernel
theorem dX12_alone_34 : decode cX12_alone 34 = .ok (.iconst 1, 1) := by decide +kernel
theorem dX12_alone_35 : decode cX12_alone 35 = .ok (.istore 5, 2) := by decide +kernel
theorem dX12_alone_37 : decode cX12_alone 37 = .ok (.iload 5, 2) := by decide +kernel
theorem dX12_alone_39 : decode cX12_alone 39 = .ok (.aload_n 0, 1) := by decide +kernel
theorem dX12_alone_40 : decode cX12_alone 40 = .ok (.getfield 161, 3) := by decide +kernel
theorem dX12_alone_43 : decode cX12_alone 43 = .ok (.if_icmp .gt 87, 3) := by decide +kernel
theorem dX12_alone_46 : decode cX12_alone 46 = .ok (.iconst 0, 1) := by decide +kernel
theorem dX12_alone_47 : decode cX12_alone 47 = .ok (.istore 6, 2) := by decide +kernel
theorem dX12_alone_49 : decode cX12_alone 49 = .ok (.iload 6, 2) := by decide +kernel
theorem dX12_alone_51 : decode cX12_alone 51 = .ok (.aload_n 0, 1) := by decide +kernel
theorem dX12_alone_52 : decode cX12_alone 52 = .ok (.getfield 154, 3) := by decide +kernel
theorem dX12_alone_55 : decode cX12_alone 55 = .ok (.if_icmp .ge 69, 3) := by decide +kernel
theorem dX12_alone_58 : decode cX12_alone 58 = .ok (.aload_n 0, 1) := by decide +kernel
theorem dX12_alone_59 : decode cX12_alone 59 = .ok (.iload 6, 2) := by decide +kernel
theorem dX12_alone_61 : decode cX12_alone 61 = .ok (.iload 5, 2) := by decide +kernel
theorem dX12_alone_63 : decode cX12_alone 63 = .ok (.iload_n 1, 1) := by decide +kernel
theorem dX12_alone_64 : decode cX12_alone 64 = .ok (.invokevirtual 400, 3) := by decide +kernel
theorem dX12_alone_67 : decode cX12_alone 67 = .ok (.ifCond .eq 51, 3) := by decide +kernel
theorem dX12_alone_70 : decode cX12_alone 70 = .ok (.aload_n 0, 1) := by decide +kernel
theorem dX12_alone_71 : decode cX12_alone 71 = .ok (.iload 6, 2) := by decide +kernel
theorem dX12_alone_73 : decode cX12_alone 73 = .ok (.iload 5, 2) := by decide +kernel
theorem dX12_alone_75 : decode cX12_alone 75 = .ok (.iconst 1, 1) := by decide +kernel
theorem dX12_alone_76 : decode cX12_alone 76 = .ok (.isub, 1) := by decide +kernel
theorem dX12_alone_77 : decode cX12_alone 77 = .ok (.iload_n 1, 1) := by decide +kernel
theorem dX12_alone_78 : decode cX12_alone 78 = .ok (.invokevirtual 400, 3) := by decide +kernel
theorem dX12_alone_81 : decode cX12_alone 81 = .ok (.ifCond .eq 6, 3) := by decide +kernel
theorem dX12_alone_84 : decode cX12_alone 84 = .ok (.goto 34, 3) := by decide +kernel
theorem dX12_alone_87 : decode cX12_alone 87 = .ok (.iload 4, 2) := by decide +kernel
theorem dX12_alone_89 : decode cX12_alone 89 = .ok (.iload_n 3, 1) := by decide +kernel
theorem dX12_alone_90 : decode cX12_alone 90 = .ok (.ifCond .eq 17, 3) := by decide +kernel
theorem dX12_alone_93 : decode cX12_alone 93 = .ok (.aload_n 0, 1) := by decide +kernel
theorem dX12_alone_94 : decode cX12_alone 94 = .ok (.iload 6, 2) := by decide +kernel
theorem dX12_alone_96 : decode cX12_alone 96 = .ok (.iload 5, 2) := by decide +kernel
theorem dX12_alone_98 : decode cX12_alone 98 = .ok (.iload_n 1, 1) := by decide +kernel
theorem dX12_alone_99 : decode cX12_alone 99 = .ok (.iload_n 2, 1) := by decide +kernel
theorem dX12_alone_100 : decode cX12_alone 100 = .ok (.invokevirtual 403, 3) := by decide +kernel
theorem dX12_alone_103 : decode cX12_alone 103 = .ok (.iload_n 3, 1) := by decide +kernel
theorem dX12_alone_104 : decode cX12_alone 104 = .ok (.if_icmp .ne 7, 3) := by decide +kernel
theorem dX12_alone_107 : decode cX12_alone 107 = .ok (.iconst 1, 1) := by decide +kernel
theorem dX12_alone_108 : decode cX12_alone 108 = .ok (.goto 4, 3) := by decide +kernel
theorem dX12_alone_111 : decode cX12_alone 111 = .ok (.iconst 0, 1) := by decide +kernel
theorem dX12_alone_112 : decode cX12_alone 112 = .ok (.invokestatic 396, 3) := by decide +kernel
theorem dX12_alone_115 : decode cX12_alone 115 = .ok (.iadd, 1) := by decide +kernel
theorem dX12_alone_116 : decode cX12_alone 116 = .ok (.istore 4, 2) := by decide +kernel
theorem dX12_alone_118 : decode cX12_alone 118 = .ok (.iinc 6 1, 3) := by decide +kernel
theorem dX12_alone_121 : decode cX12_alone 121 = .ok (.goto (-72), 3) := by decide +kernel
theorem dX12_alone_124 : decode cX12_alone 124 = .ok (.iinc 5 1, 3) := by decide +kernel
theorem dX12_alone_127 : decode cX12_alone 127 = .ok (.goto (-90), 3) := by decide +kernel
theorem dX12_alone_130 : decode cX12_alone 130 = .ok (.iload 4, 2) := by decide +kernel
theorem dX12_alone_132 : decode cX12_alone 132 = .ok (.ireturn, 1) := by decide +kernel
theorem dX12_like_0 : decode cX12_like 0 = .ok (.iload_n 1, 1) := by decide +kernel
theorem dX12_like_1 : decode cX12_like 1 = .ok (.iconst 1, 1) := by decide +kernel
theorem dX12_like_2 : decode cX12_like 2 = .ok (.bipush 10, 2) := by decide +kernel
theorem dX12_like_4 : decode cX12_like 4 = .ok (.invokestatic 157, 3) := by decide +kernel
theorem dX12_like_7 : decode cX12_like 7 = .ok (.ifCond .eq 19, 3) := by decide +kernel
theorem dX12_like_10 : decode cX12_like 10 = .ok (.iload_n 2, 1) := by decide +kernel
theorem dX12_like_11 : decode cX12_like 11 = .ok (.iconst 0, 1) := by decide +kernel
theorem dX12_like_12 : decode cX12_like 12 = .ok (.iconst 1, 1) := by decide +kernel
theorem dX12_like_13 : decode cX12_like 13 = .ok (.invokestatic 157, 3) := by decide +kernel
theorem dX12_like_16 : decode cX12_like 16 = .ok (.ifCond .eq 10, 3) := by decide +kernel
theorem dX12_like_19 : decode cX12_like 19 = .ok (.aload_n 0, 1) := by decide +kernel
theorem dX12_like_20 : decode cX12_like 20 = .ok (.getfield 154, 3) := by decide +kernel
theorem dX12_like_23 : decode cX12_like 23 = .ok (.ifCond .ne 5, 3) := by decide +kernel
theorem dX12_like_26 : decode cX12_like 26 = .ok (.iconst (-1), 1) := by decide +kernel
theorem dX12_like_27 : decode cX12_like 27 = .ok (.ireturn, 1) := by decide +kernel
theorem dX12_like_28 : decode cX12_like 28 = .ok (.iconst (-1), 1) := by decide +kernel
theorem dX12_like_29 : decode cX12_like 29 = .ok (.istore_n 3, 1) := by decide +kernel
theorem dX12_like_30 : decode cX12_like 30 = .ok (.iconst 0, 1) := by decide +kernel
theorem dX12_like_31 : decode cX12_like 31 = .ok (.istore 4, 2) := by decide +kernel
theorem dX12_like_33 : decode cX12_like 33 = .ok (.iload_n 1, 1) := by decide +kernel
theorem dX12_like_34 : decode cX12_like 34 = .ok (.iconst 1, 1) := by decide +kernel
theorem dX12_like_35 : decode cX12_like 35 = .ok (.isub, 1) := by decide +kernel
theorem dX12_like_36 : decode cX12_like 36 = .ok (.istore 5, 2) := by decide +kernel
theorem dX12_like_38 : decode cX12_like 38 = .ok (.iload 5, 2) := by decide +kernel
theorem dX12_like_40 : decode cX12_like 40 = .ok (.aload_n 0, 1) := by decide +kernel
theorem dX12_like_41 : decode cX12_like 41 = .ok (.getfield 161, 3) := by decide +kernel
theorem dX12_like_44 : decode cX12_like 44 = .ok (.if_icmp .ge 78, 3) := by decide +kernel
theorem dX12_like_47 : decode cX12_like 47 = .ok (.iconst 0, 1) := by decide +kernel
theorem dX12_like_48 : decode cX12_like 48 = .ok (.istore 6, 2) := by decide +kernel
theorem dX12_like_50 : decode cX12_like 50 = .ok (.iconst 0, 1) := by decide +kernel
theorem dX12_like_51 : decode cX12_like 51 = .ok (.istore 7, 2) := by decide +kernel
theorem dX12_like_53 : decode cX12_like 53 = .ok (.iload 7, 2) := by decide +kernel
theorem dX12_like_55 : decode cX12_like 55 = .ok (.iload_n 1, 1) := by decide +kernel
theorem dX12_like_56 : decode cX12_like 56 = .ok (.if_icmp .ge 38, 3) := by decide +kernel
theorem dX12_like_59 : decode cX12_like 59 = .ok (.iload 6, 2) := by decide +kernel
theorem dX12_like_61 : decode cX12_like 61 = .ok (.aload_n 0, 1) := by decide +kernel
theorem dX12_like_62 : decode cX12_like 62 = .ok (.iload 5, 2) := by decide +kernel
theorem dX12_like_64 : decode cX12_like 64 = .ok (.iload 7, 2) := by decide +kernel
theorem dX12_like_66 : decode cX12_like 66 = .ok (.isub, 1) := by decide +kernel
theorem dX12_like_67 : decode cX12_like 67 = .ok (.invokevirtual 365, 3) := by decide +kernel
theorem dX12_like_70 : decode cX12_like 70 = .ok (.aload_n 0, 1) := by decide +kernel
theorem dX12_like_71 : decode cX12_like 71 = .ok (.aload_n 0, 1) := by decide +kernel
theorem dX12_like_72 : decode cX12_like 72 = .ok (.getfield 161, 3) := by decide +kernel
theorem dX12_like_75 : decode cX12_like 75 = .ok (.iload 7, 2) := by decide +kernel
theorem dX12_like_77 : decode cX12_like 77 = .ok (.isub, 1) := by decide +kernel
theorem dX12_like_78 : decode cX12_like 78 = .ok (.invokevirtual 365, 3) := by decide +kernel
theorem dX12_like_81 : decode cX12_like 81 = .ok (.isub, 1) := by decide +kernel
theorem dX12_like_82 : decode cX12_like 82 = .ok (.invokestatic 337, 3) := by decide +kernel
theorem dX12_like_85 : decode cX12_like 85 = .ok (.iadd, 1) := by decide +kernel
theorem dX12_like_86 : decode cX12_like 86 = .ok (.istore 6, 2) := by decide +kernel
theorem dX12_like_88 : decode cX12_like 88 = .ok (.iinc 7 1, 3) := by decide +kernel
theorem dX12_like_91 : decode cX12_like 91 = .ok (.goto (-38), 3) := by decide +kernel
theorem dX12_like_94 : decode cX12_like 94 = .ok (.iload_n 3, 1) := by decide +kernel
theorem dX12_like_95 : decode cX12_like 95 = .ok (.iconst (-1), 1) := by decide +kernel
theorem dX12_like_96 : decode cX12_like 96 = .ok (.if_icmp .eq 13, 3) := by decide +kernel
theorem dX12_like_99 : decode cX12_like 99 = .ok (.iload 6, 2) := by decide +kernel
theorem dX12_like_101 : decode cX12_like 101 = .ok (.iload 4, 2) := by decide +kernel
theorem dX12_like_103 : decode cX12_like 103 = .ok (.if_icmp .le 6, 3) := by decide +kernel
theorem dX12_like_106 : decode cX12_like 106 = .ok (.goto 10, 3) := by decide +kernel
theorem dX12_like_109 : decode cX12_like 109 = .ok (.iload 5, 2) := by decide +kernel
theorem dX12_like_111 : decode cX12_like 111 = .ok (.istore_n 3, 1) := by decide +kernel
theorem dX12_like_112 : decode cX12_like 112 = .ok (.iload 6, 2) := by decide +kernel
theorem dX12_like_114 : decode cX12_like 114 = .ok (.istore 4, 2) := by decide +kernel
theorem dX12_like_116 : decode cX12_like 116 = .ok (.iinc 5 1, 3) := by decide +kernel
theorem dX12_like_119 : decode cX12_like 119 = .ok (.goto (-81), 3) := by decide +kernel
theorem dX12_like_122 : decode cX12_like 122 = .ok (.iload_n 3, 1) := by decide +kernel
theorem dX12_like_123 : decode cX12_like 123 = .ok (.iconst (-1), 1) := by decide +kernel
theorem dX12_like_124 : decode cX12_like 124 = .ok (.if_icmp .eq 7, 3) := by decide +kernel
theorem dX12_like_127 : decode cX12_like 127 = .ok (.iload_n 2, 1) := by decide +kernel
theorem dX12_like_128 : decode cX12_like 128 = .ok (.ifCond .ne 7, 3) := by decide +kernel
theorem dX12_like_131 : decode cX12_like 131 = .ok (.iload_n 3, 1) := by decide +kernel
theorem dX12_like_132 : decode cX12_like 132 = .ok (.goto 25, 3) := by decide +kernel
theorem dX12_like_135 : decode cX12_like 135 = .ok (.aload_n 0, 1) := by decide +kernel
theorem dX12_like_136 : decode cX12_like 136 = .ok (.iload_n 3, 1) := by decide +kernel
theorem dX12_like_137 : decode cX12_like 137 = .ok (.iconst 1, 1) := by decide +kernel
theorem dX12_like_138 : decode cX12_like 138 = .ok (.iadd, 1) := by decide +kernel
theorem dX12_like_139 : decode cX12_like 139 = .ok (.invokevirtual 365, 3) := by decide +kernel
theorem dX12_like_142 : decode cX12_like 142 = .ok (.aload_n 0, 1) := by decide +kernel
theorem dX12_like_143 : decode cX12_like 143 = .ok (.aload_n 0, 1) := by decide +kernel
theorem dX12_like_144 : decode cX12_like 144 = .ok (.getfield 161, 3) := by decide +kernel
theorem dX12_like_147 : decode cX12_like 147 = .ok (.invokevirtual 365, 3) := by decide +kernel
theorem dX12_like_150 : decode cX12_like 150 = .ok (.iadd, 1) := by decide +kernel
theorem dX12_like_151 : decode cX12_like 151 = .ok (.aload_n 0, 1) := by decide +kernel
theorem dX12_like_152 : decode cX12_like 152 = .ok (.iload_n 3, 1) := by decide +kernel
theorem dX12_like_153 : decode cX12_like 153 = .ok (.invokevirtual 365, 3) := by decide +kernel
theorem dX12_like_156 : decode cX12_like 156 = .ok (.isub, 1) := by decide +kernel
theorem dX12_like_157 : decode cX12_like 157 = .ok (.ireturn, 1) := by decide +kernel
theorem dX12_streets_0 : decode cX12_streets 0 = .ok (.iconst 0, 1) := by decide +kernel
theorem dX12_streets_1 : decode cX12_streets 1 = .ok (.istore_n 1, 1) := by decide +kernel
theorem dX12_streets_2 : decode cX12_streets 2 = .ok (.iload_n 1, 1) := by decide +kernel
theorem dX12_streets_3 : decode cX12_streets 3 = .ok (.aload_n 0, 1) := by decide +kernel
theorem dX12_streets_4 : decode cX12_streets 4 = .ok (.getfield 154, 3) := by decide +kernel
theorem dX12_streets_7 : decode cX12_streets 7 = .ok (.if_icmp .ge 16, 3) := by decide +kernel
theorem dX12_streets_10 : decode cX12_streets 10 = .ok (.aload_n 0, 1) := by decide +kernel
theorem dX12_streets_11 : decode cX12_streets 11 = .ok (.getfield 110, 3) := by decide +kernel
theorem dX12_streets_14 : decode cX12_streets 14 = .ok (.iload_n 1, 1) := by decide +kernel
theorem dX12_streets_15 : decode cX12_streets 15 = .ok (.iload_n 1, 1) := by decide +kernel
theorem dX12_streets_16 : decode cX12_streets 16 = .ok (.iastore, 1) := by decide +kernel
theorem dX12_streets_17 : decode cX12_streets 17 = .ok (.iinc 1 1, 3) := by decide +kernel
theorem dX12_streets_20 : decode cX12_streets 20 = .ok (.goto (-18), 3) := by decide +kernel
theorem dX12_streets_23 : decode cX12_streets 23 = .ok (.iconst 1, 1) := by decide +kernel
theorem dX12_streets_24 : decode cX12_streets 24 = .ok (.istore_n 1, 1) := by decide +kernel
theorem dX12_streets_25 : decode cX12_streets 25 = .ok (.iload_n 1, 1) := by decide +kernel
theorem dX12_streets_26 : decode cX12_streets 26 = .ok (.ifCond .eq 98, 3) := by decide +kernel
theorem dX12_streets_29 : decode cX12_streets 29 = .ok (.iconst 0, 1) := by decide +kernel
theorem dX12_streets_30 : decode cX12_streets 30 = .ok (.istore_n 1, 1) := by decide +kernel
theorem dX12_streets_31 : decode cX12_streets 31 = .ok (.iconst 0, 1) := by decide +kernel
theorem dX12_streets_32 : decode cX12_streets 32 = .ok (.istore_n 2, 1) := by decide +kernel
theorem dX12_streets_33 : decode cX12_streets 33 = .ok (.iload_n 2, 1) := by decide +kernel
theorem dX12_streets_34 : decode cX12_streets 34 = .ok (.aload_n 0, 1) := by decide +kernel
theorem dX12_streets_35 : decode cX12_streets 35 = .ok (.getfield 154, 3) := by decide +kernel
theorem dX12_streets_38 : decode cX12_streets 38 = .ok (.if_icmp .ge 83, 3) := by decide +kernel
theorem dX12_streets_41 : decode cX12_streets 41 = .ok (.iconst 0, 1) := by decide +kernel
theorem dX12_streets_42 : decode cX12_streets 42 = .ok (.istore_n 3, 1) := by decide +kernel
theorem dX12_streets_43 : decode cX12_streets 43 = .ok (.iload_n 3, 1) := by decide +kernel
theorem dX12_streets_44 : decode cX12_streets 44 = .ok (.aload_n 0, 1) := by decide +kernel
theorem dX12_streets_45 : decode cX12_streets 45 = .ok (.getfield 154, 3) := by decide +kernel
theorem dX12_streets_48 : decode cX12_streets 48 = .ok (.if_icmp .ge 67, 3) := by decide +kernel
theorem dX12_streets_51 : decode cX12_streets 51 = .ok (.aload_n 0, 1) := by decide +kernel
theorem dX12_streets_52 : decode cX12_streets 52 = .ok (.getfield 26, 3) := by decide +kernel
theorem dX12_streets_55 : decode cX12_streets 55 = .ok (.iload_n 2, 1) := by decide +kernel
theorem dX12_streets_56 : decode cX12_streets 56 = .ok (.iaload, 1) := by decide +kernel
theorem dX12_streets_57 : decode cX12_streets 57 = .ok (.iload_n 3, 1) := by decide +kernel
theorem dX12_streets_58 : decode cX12_streets 58 = .ok (.invokestatic 299, 3) := by decide +kernel
theorem dX12_streets_61 : decode cX12_streets 61 = .ok (.ifCond .ne 16, 3) := by decide +kernel
theorem dX12_streets_64 : decode cX12_streets 64 = .ok (.aload_n 0, 1) := by decide +kernel
theorem dX12_streets_65 : decode cX12_streets 65 = .ok (.getfield 26, 3) := by decide +kernel
theorem dX12_streets_68 : decode cX12_streets 68 = .ok (.iload_n 3, 1) := by decide +kernel
theorem dX12_streets_69 : decode cX12_streets 69 = .ok (.iaload, 1) := by decide +kernel
theorem dX12_streets_70 : decode cX12_streets 70 = .ok (.iload_n 2, 1) := by decide +kernel
theorem dX12_streets_71 : decode cX12_streets 71 = .ok (.invokestatic 299, 3) := by decide +kernel
theorem dX12_streets_74 : decode cX12_streets 74 = .ok (.ifCond .eq 35, 3) := by decide +kernel
theorem dX12_streets_77 : decode cX12_streets 77 = .ok (.aload_n 0, 1) := by decide +kernel
theorem dX12_streets_78 : decode cX12_streets 78 = .ok (.getfield 110, 3) := by decide +kernel
theorem dX12_streets_81 : decode cX12_streets 81 = .ok (.iload_n 3, 1) := by decide +kernel
theorem dX12_streets_82 : decode cX12_streets 82 = .ok (.iaload, 1) := by decide +kernel
theorem dX12_streets_83 : decode cX12_streets 83 = .ok (.aload_n 0, 1) := by decide +kernel
theorem dX12_streets_84 : decode cX12_streets 84 = .ok (.getfield 110, 3) := by decide +kernel
theorem dX12_streets_87 : decode cX12_streets 87 = .ok (.iload_n 2, 1) := by decide +kernel
theorem dX12_streets_88 : decode cX12_streets 88 = .ok (.iaload, 1) := by decide +kernel
theorem dX12_streets_89 : decode cX12_streets 89 = .ok (.if_icmp .lt 6, 3) := by decide +kernel
theorem dX12_streets_92 : decode cX12_streets 92 = .ok (.goto 17, 3) := by decide +kernel
theorem dX12_streets_95 : decode cX12_streets 95 = .ok (.aload_n 0, 1) := by decide +kernel
theorem dX12_streets_96 : decode cX12_streets 96 = .ok (.getfield 110, 3) := by decide +kernel
theorem dX12_streets_99 : decode cX12_streets 99 = .ok (.iload_n 2, 1) := by decide +kernel
theorem dX12_streets_100 : decode cX12_streets 100 = .ok (.aload_n 0, 1) := by decide +kernel
theorem dX12_streets_101 : decode cX12_streets 101 = .ok (.getfield 110, 3) := by decide +kernel
theorem dX12_streets_104 : decode cX12_streets 104 = .ok (.iload_n 3, 1) := by decide +kernel
theorem dX12_streets_105 : decode cX12_streets 105 = .ok (.iaload, 1) := by decide +kernel
theorem dX12_streets_106 : decode cX12_streets 106 = .ok (.iastore, 1) := by decide +kernel
theorem dX12_streets_107 : decode cX12_streets 107 = .ok (.iconst 1, 1) := by decide +kernel
theorem dX12_streets_108 : decode cX12_streets 108 = .ok (.istore_n 1, 1) := by decide +kernel
theorem dX12_streets_109 : decode cX12_streets 109 = .ok (.iinc 3 1, 3) := by decide +kernel
theorem dX12_streets_112 : decode cX12_streets 112 = .ok (.goto (-69), 3) := by decide +kernel
theorem dX12_streets_115 : decode cX12_streets 115 = .ok (.iinc 2 1, 3) := by decide +kernel
theorem dX12_streets_118 : decode cX12_streets 118 = .ok (.goto (-85), 3) := by decide +kernel
theorem dX12_streets_121 : decode cX12_streets 121 = .ok (.goto (-96), 3) := by decide +kernel
theorem dX12_streets_124 : decode cX12_streets 124 = .ok (.return_, 1) := by decide +kernel
theorem dX12_street_0 : decode cX12_street 0 = .ok (.iload_n 1, 1) := by decide +kernel
theorem dX12_street_1 : decode cX12_street 1 = .ok (.iconst (-1), 1) := by decide +kernel
theorem dX12_street_2 : decode cX12_street 2 = .ok (.if_icmp .ne 10, 3) := by decide +kernel
theorem dX12_street_5 : decode cX12_street 5 = .ok (.iload_n 2, 1) := by decide +kernel
theorem dX12_street_6 : decode cX12_street 6 = .ok (.ifCond .eq 25, 3) := by decide +kernel
theorem dX12_street_9 : decode cX12_street 9 = .ok (.goto 20, 3) := by decide +kernel
theorem dX12_street_12 : decode cX12_street 12 = .ok (.aload_n 0, 1) := by decide +kernel
theorem dX12_street_13 : decode cX12_street 13 = .ok (.iload_n 1, 1) := by decide +kernel
theorem dX12_street_14 : decode cX12_street 14 = .ok (.invokevirtual 167, 3) := by decide +kernel
theorem dX12_street_17 : decode cX12_street 17 = .ok (.ifCond .eq 12, 3) := by decide +kernel
theorem dX12_street_20 : decode cX12_street 20 = .ok (.iload_n 2, 1) := by decide +kernel
theorem dX12_street_21 : decode cX12_street 21 = .ok (.iconst 0, 1) := by decide +kernel
theorem dX12_street_22 : decode cX12_street 22 = .ok (.iconst 1, 1) := by decide +kernel
theorem dX12_street_23 : decode cX12_street 23 = .ok (.invokestatic 157, 3) := by decide +kernel
theorem dX12_street_26 : decode cX12_street 26 = .ok (.ifCond .ne 5, 3) := by decide +kernel
theorem dX12_street_29 : decode cX12_street 29 = .ok (.iconst (-1), 1) := by decide +kernel
theorem dX12_street_30 : decode cX12_street 30 = .ok (.ireturn, 1) := by decide +kernel
theorem dX12_street_31 : decode cX12_street 31 = .ok (.aload_n 0, 1) := by decide +kernel
theorem dX12_street_32 : decode cX12_street 32 = .ok (.invokevirtual 407, 3) := by decide +kernel
theorem dX12_street_35 : decode cX12_street 35 = .ok (.iconst 0, 1) := by decide +kernel
theorem dX12_street_36 : decode cX12_street 36 = .ok (.istore_n 3, 1) := by decide +kernel
theorem dX12_street_37 : decode cX12_street 37 = .ok (.iconst 0, 1) := by decide +kernel
theorem dX12_street_38 : decode cX12_street 38 = .ok (.istore 4, 2) := by decide +kernel
theorem dX12_street_40 : decode cX12_street 40 = .ok (.iconst 0, 1) := by decide +kernel
theorem dX12_street_41 : decode cX12_street 41 = .ok (.istore 5, 2) := by decide +kernel
theorem dX12_street_43 : decode cX12_street 43 = .ok (.iload 5, 2) := by decide +kernel
theorem dX12_street_45 : decode cX12_street 45 = .ok (.aload_n 0, 1) := by decide +kernel
theorem dX12_street_46 : decode cX12_street 46 = .ok (.getfield 154, 3) := by decide +kernel
theorem dX12_street_49 : decode cX12_street 49 = .ok (.if_icmp .ge 66, 3) := by decide +kernel
theorem dX12_street_52 : decode cX12_street 52 = .ok (.iload_n 1, 1) := by decide +kernel
theorem dX12_street_53 : decode cX12_street 53 = .ok (.iconst (-1), 1) := by decide +kernel
theorem dX12_street_54 : decode cX12_street 54 = .ok (.if_icmp .ne 18, 3) := by decide +kernel
theorem dX12_street_57 : decode cX12_street 57 = .ok (.aload_n 0, 1) := by decide +kernel
theorem dX12_street_58 : decode cX12_street 58 = .ok (.getfield 110, 3) := by decide +kernel
theorem dX12_street_61 : decode cX12_street 61 = .ok (.iload 5, 2) := by decide +kernel
theorem dX12_street_63 : decode cX12_street 63 = .ok (.iaload, 1) := by decide +kernel
theorem dX12_street_64 : decode cX12_street 64 = .ok (.iload 5, 2) := by decide +kernel
theorem dX12_street_66 : decode cX12_street 66 = .ok (.if_icmp .eq 25, 3) := by decide +kernel
theorem dX12_street_69 : decode cX12_street 69 = .ok (.goto 40, 3) := by decide +kernel
theorem dX12_street_72 : decode cX12_street 72 = .ok (.aload_n 0, 1) := by decide +kernel
theorem dX12_street_73 : decode cX12_street 73 = .ok (.getfield 110, 3) := by decide +kernel
theorem dX12_street_76 : decode cX12_street 76 = .ok (.iload 5, 2) := by decide +kernel
theorem dX12_street_78 : decode cX12_street 78 = .ok (.iaload, 1) := by decide +kernel
theorem dX12_street_79 : decode cX12_street 79 = .ok (.aload_n 0, 1) := by decide +kernel
theorem dX12_street_80 : decode cX12_street 80 = .ok (.getfield 110, 3) := by decide +kernel
theorem dX12_street_83 : decode cX12_street 83 = .ok (.iload_n 1, 1) := by decide +kernel
theorem dX12_street_84 : decode cX12_street 84 = .ok (.iaload, 1) := by decide +kernel
theorem dX12_street_85 : decode cX12_street 85 = .ok (.if_icmp .eq 6, 3) := by decide +kernel
theorem dX12_street_88 : decode cX12_street 88 = .ok (.goto 21, 3) := by decide +kernel
theorem dX12_street_91 : decode cX12_street 91 = .ok (.iinc 3 1, 3) := by decide +kernel
theorem dX12_street_94 : decode cX12_street 94 = .ok (.iload 4, 2) := by decide +kernel
theorem dX12_street_96 : decode cX12_street 96 = .ok (.aload_n 0, 1) := by decide +kernel
theorem dX12_street_97 : decode cX12_street 97 = .ok (.iload 5, 2) := by decide +kernel
theorem dX12_street_99 : decode cX12_street 99 = .ok (.aload_n 0, 1) := by decide +kernel
theorem dX12_street_100 : decode cX12_street 100 = .ok (.getfield 161, 3) := by decide +kernel
theorem dX12_street_103 : decode cX12_street 103 = .ok (.invokevirtual 302, 3) := by decide +kernel
theorem dX12_street_106 : decode cX12_street 106 = .ok (.iadd, 1) := by decide +kernel
theorem dX12_street_107 : decode cX12_street 107 = .ok (.istore 4, 2) := by decide +kernel
theorem dX12_street_109 : decode cX12_street 109 = .ok (.iinc 5 1, 3) := by decide +kernel
theorem dX12_street_112 : decode cX12_street 112 = .ok (.goto (-69), 3) := by decide +kernel
theorem dX12_street_115 : decode cX12_street 115 = .ok (.iload_n 1, 1) := by decide +kernel
theorem dX12_street_116 : decode cX12_street 116 = .ok (.iconst (-1), 1) := by decide +kernel
theorem dX12_street_117 : decode cX12_street 117 = .ok (.if_icmp .ne 7, 3) := by decide +kernel
theorem dX12_street_120 : decode cX12_street 120 = .ok (.iload_n 3, 1) := by decide +kernel
theorem dX12_street_121 : decode cX12_street 121 = .ok (.goto 23, 3) := by decide +kernel
theorem dX12_street_124 : decode cX12_street 124 = .ok (.iload_n 2, 1) := by decide +kernel
theorem dX12_street_125 : decode cX12_street 125 = .ok (.ifCond .ne 12, 3) := by decide +kernel
theorem dX12_street_128 : decode cX12_street 128 = .ok (.aload_n 0, 1) := by decide +kernel
theorem dX12_street_129 : decode cX12_street 129 = .ok (.getfield 110, 3) := by decide +kernel
theorem dX12_street_132 : decode cX12_street 132 = .ok (.iload_n 1, 1) := by decide +kernel
theorem dX12_street_133 : decode cX12_street 133 = .ok (.iaload, 1) := by decide +kernel
theorem dX12_street_134 : decode cX12_street 134 = .ok (.goto 10, 3) := by decide +kernel
theorem dX12_street_137 : decode cX12_street 137 = .ok (.bipush 100, 2) := by decide +kernel
theorem dX12_street_139 : decode cX12_street 139 = .ok (.iload 4, 2) := by decide +kernel
theorem dX12_street_141 : decode cX12_street 141 = .ok (.imul, 1) := by decide +kernel
theorem dX12_street_142 : decode cX12_street 142 = .ok (.iload_n 3, 1) := by decide +kernel
theorem dX12_street_143 : decode cX12_street 143 = .ok (.idiv, 1) := by decide +kernel
theorem dX12_street_144 : decode cX12_street 144 = .ok (.ireturn, 1) := by decide +kernel
theorem dX12_isFollowed_0 : decode cX12_isFollowed 0 = .ok (.bipush 100, 2) := by decide +kernel
theorem dX12_isFollowed_2 : decode cX12_isFollowed 2 = .ok (.aload_n 0, 1) := by decide +kernel
theorem dX12_isFollowed_3 : decode cX12_isFollowed 3 = .ok (.iload_n 1, 1) := by decide +kernel
theorem dX12_isFollowed_4 : decode cX12_isFollowed 4 = .ok (.iload_n 2, 1) := by decide +kernel
theorem dX12_isFollowed_5 : decode cX12_isFollowed 5 = .ok (.invokevirtual 306, 3) := by decide +kernel
theorem dX12_isFollowed_8 : decode cX12_isFollowed 8 = .ok (.imul, 1) := by decide +kernel
theorem dX12_isFollowed_9 : decode cX12_isFollowed 9 = .ok (.istore_n 3, 1) := by decide +kernel
theorem dX12_isFollowed_10 : decode cX12_isFollowed 10 = .ok (.aload_n 0, 1) := by decide +kernel
theorem dX12_isFollowed_11 : decode cX12_isFollowed 11 = .ok (.iload_n 2, 1) := by decide +kernel
theorem dX12_isFollowed_12 : decode cX12_isFollowed 12 = .ok (.iconst 1, 1) := by decide +kernel
theorem dX12_isFollowed_13 : decode cX12_isFollowed 13 = .ok (.iadd, 1) := by decide +kernel
theorem dX12_isFollowed_14 : decode cX12_isFollowed 14 = .ok (.invokevirtual 365, 3) := by decide +kernel
theorem dX12_isFollowed_17 : decode cX12_isFollowed 17 = .ok (.iload_n 3, 1) := by decide +kernel
theorem dX12_isFollowed_18 : decode cX12_isFollowed 18 = .ok (.isub, 1) := by decide +kernel
theorem dX12_isFollowed_19 : decode cX12_isFollowed 19 = .ok (.invokestatic 337, 3) := by decide +kernel
theorem dX12_isFollowed_22 : decode cX12_isFollowed 22 = .ok (.aload_n 0, 1) := by decide +kernel
theorem dX12_isFollowed_23 : decode cX12_isFollowed 23 = .ok (.iload_n 2, 1) := by decide +kernel
theorem dX12_isFollowed_24 : decode cX12_isFollowed 24 = .ok (.invokevirtual 365, 3) := by decide +kernel
theorem dX12_isFollowed_27 : decode cX12_isFollowed 27 = .ok (.iload_n 3, 1) := by decide +kernel
theorem dX12_isFollowed_28 : decode cX12_isFollowed 28 = .ok (.isub, 1) := by decide +kernel
theorem dX12_isFollowed_29 : decode cX12_isFollowed 29 = .ok (.invokestatic 337, 3) := by decide +kernel
theorem dX12_isFollowed_32 : decode cX12_isFollowed 32 = .ok (.if_icmp .ge 7, 3) := by decide +kernel
theorem dX12_isFollowed_35 : decode cX12_isFollowed 35 = .ok (.iconst 1, 1) := by decide +kernel
theorem dX12_isFollowed_36 : decode cX12_isFollowed 36 = .ok (.goto 4, 3) := by decide +kernel
theorem dX12_isFollowed_39 : decode cX12_isFollowed 39 = .ok (.iconst 0, 1) := by decide +kernel
theorem dX12_isFollowed_40 : decode cX12_isFollowed 40 = .ok (.ireturn, 1) := by decide +kernel
theorem dX12_followed_0 : decode cX12_followed 0 = .ok (.iload_n 1, 1) := by decide +kernel
theorem dX12_followed_1 : decode cX12_followed 1 = .ok (.iconst 0, 1) := by decide +kernel
theorem dX12_followed_2 : decode cX12_followed 2 = .ok (.iconst 3, 1) := by decide +kernel
theorem dX12_followed_3 : decode cX12_followed 3 = .ok (.invokestatic 157, 3) := by decide +kernel
theorem dX12_followed_6 : decode cX12_followed 6 = .ok (.ifCond .eq 12, 3) := by decide +kernel
theorem dX12_followed_9 : decode cX12_followed 9 = .ok (.iload_n 2, 1) := by decide +kernel
theorem dX12_followed_10 : decode cX12_followed 10 = .ok (.iconst 0, 1) := by decide +kernel
theorem dX12_followed_11 : decode cX12_followed 11 = .ok (.iconst 1, 1) := by decide +kernel
theorem dX12_followed_12 : decode cX12_followed 12 = .ok (.invokestatic 157, 3) := by decide +kernel
theorem dX12_followed_15 : decode cX12_followed 15 = .ok (.ifCond .ne 5, 3) := by decide +kernel
theorem dX12_followed_18 : decode cX12_followed 18 = .ok (.iconst (-1), 1) := by decide +kernel
theorem dX12_followed_19 : decode cX12_followed 19 = .ok (.ireturn, 1) := by decide +kernel
theorem dX12_followed_20 : decode cX12_followed 20 = .ok (.iconst 0, 1) := by decide +kernel
theorem dX12_followed_21 : decode cX12_followed 21 = .ok (.istore_n 3, 1) := by decide +kernel
theorem dX12_followed_22 : decode cX12_followed 22 = .ok (.iconst 0, 1) := by decide +kernel
theorem dX12_followed_23 : decode cX12_followed 23 = .ok (.istore 4, 2) := by decide +kernel
theorem dX12_followed_25 : decode cX12_followed 25 = .ok (.iload 4, 2) := by decide +kernel
theorem dX12_followed_27 : decode cX12_followed 27 = .ok (.aload_n 0, 1) := by decide +kernel
theorem dX12_followed_28 : decode cX12_followed 28 = .ok (.getfield 161, 3) := by decide +kernel
theorem dX12_followed_31 : decode cX12_followed 31 = .ok (.if_icmp .ge 46, 3) := by decide +kernel
theorem dX12_followed_34 : decode cX12_followed 34 = .ok (.iload_n 3, 1) := by decide +kernel
theorem dX12_followed_35 : decode cX12_followed 35 = .ok (.aload_n 0, 1) := by decide +kernel
theorem dX12_followed_36 : decode cX12_followed 36 = .ok (.iload_n 1, 1) := by decide +kernel
theorem dX12_followed_37 : decode cX12_followed 37 = .ok (.iload 4, 2) := by decide +kernel
theorem dX12_followed_39 : decode cX12_followed 39 = .ok (.invokevirtual 306, 3) := by decide +kernel
theorem dX12_followed_42 : decode cX12_followed 42 = .ok (.iconst (-1), 1) := by decide +kernel
theorem dX12_followed_43 : decode cX12_followed 43 = .ok (.if_icmp .eq 22, 3) := by decide +kernel
theorem dX12_followed_46 : decode cX12_followed 46 = .ok (.iload_n 2, 1) := by decide +kernel
theorem dX12_followed_47 : decode cX12_followed 47 = .ok (.iconst 1, 1) := by decide +kernel
theorem dX12_followed_48 : decode cX12_followed 48 = .ok (.if_icmp .eq 13, 3) := by decide +kernel
theorem dX12_followed_51 : decode cX12_followed 51 = .ok (.aload_n 0, 1) := by decide +kernel
theorem dX12_followed_52 : decode cX12_followed 52 = .ok (.iload_n 1, 1) := by decide +kernel
theorem dX12_followed_53 : decode cX12_followed 53 = .ok (.iload 4, 2) := by decide +kernel
theorem dX12_followed_55 : decode cX12_followed 55 = .ok (.invokevirtual 410, 3) := by decide +kernel
theorem dX12_followed_58 : decode cX12_followed 58 = .ok (.ifCond .eq 7, 3) := by decide +kernel
theorem dX12_followed_61 : decode cX12_followed 61 = .ok (.iconst 1, 1) := by decide +kernel
theorem dX12_followed_62 : decode cX12_followed 62 = .ok (.goto 4, 3) := by decide +kernel
theorem dX12_followed_65 : decode cX12_followed 65 = .ok (.iconst 0, 1) := by decide +kernel
theorem dX12_followed_66 : decode cX12_followed 66 = .ok (.invokestatic 396, 3) := by decide +kernel
theorem dX12_followed_69 : decode cX12_followed 69 = .ok (.iadd, 1) := by decide +kernel
theorem dX12_followed_70 : decode cX12_followed 70 = .ok (.istore_n 3, 1) := by decide +kernel
theorem dX12_followed_71 : decode cX12_followed 71 = .ok (.iinc 4 1, 3) := by decide +kernel
theorem dX12_followed_74 : decode cX12_followed 74 = .ok (.goto (-49), 3) := by decide +kernel
theorem dX12_followed_77 : decode cX12_followed 77 = .ok (.iload_n 3, 1) := by decide +kernel
theorem dX12_followed_78 : decode cX12_followed 78 = .ok (.ireturn, 1) := by decide +kernel
theorem dX12_luck_0 : decode cX12_luck 0 = .ok (.iload_n 1, 1) := by decide +kernel
theorem dX12_luck_1 : decode cX12_luck 1 = .ok (.iconst 0, 1) := by decide +kernel
theorem dX12_luck_2 : decode cX12_luck 2 = .ok (.iconst 3, 1) := by decide +kernel
theorem dX12_luck_3 : decode cX12_luck 3 = .ok (.invokestatic 157, 3) := by decide +kernel
theorem dX12_luck_6 : decode cX12_luck 6 = .ok (.ifCond .eq 12, 3) := by decide +kernel
theorem dX12_luck_9 : decode cX12_luck 9 = .ok (.iload_n 2, 1) := by decide +kernel
theorem dX12_luck_10 : decode cX12_luck 10 = .ok (.iconst 0, 1) := by decide +kernel
theorem dX12_luck_11 : decode cX12_luck 11 = .ok (.iconst 1, 1) := by decide +kernel
theorem dX12_luck_12 : decode cX12_luck 12 = .ok (.invokestatic 157, 3) := by decide +kernel
theorem dX12_luck_15 : decode cX12_luck 15 = .ok (.ifCond .ne 7, 3) := by decide +kernel
theorem dX12_luck_18 : decode cX12_luck 18 = .ok (.ldc2_w 413, 3) := by decide +kernel
theorem dX12_luck_21 : decode cX12_luck 21 = .ok (.lreturn, 1) := by decide +kernel
theorem dX12_luck_22 : decode cX12_luck 22 = .ok (.iconst 0, 1) := by decide +kernel
theorem dX12_luck_23 : decode cX12_luck 23 = .ok (.istore_n 3, 1) := by decide +kernel
theorem dX12_luck_24 : decode cX12_luck 24 = .ok (.iload_n 3, 1) := by decide +kernel
theorem dX12_luck_25 : decode cX12_luck 25 = .ok (.bipush 13, 2) := by decide +kernel
theorem dX12_luck_27 : decode cX12_luck 27 = .ok (.if_icmp .ge 24, 3) := by decide +kernel
theorem dX12_luck_30 : decode cX12_luck 30 = .ok (.aload_n 0, 1) := by decide +kernel
theorem dX12_luck_31 : decode cX12_luck 31 = .ok (.getfield 113, 3) := by decide +kernel
theorem dX12_luck_34 : decode cX12_luck 34 = .ok (.iload_n 3, 1) := by decide +kernel
theorem dX12_luck_35 : decode cX12_luck 35 = .ok (.iload_n 3, 1) := by decide +kernel
theorem dX12_luck_36 : decode cX12_luck 36 = .ok (.ifCond .ne 7, 3) := by decide +kernel
theorem dX12_luck_39 : decode cX12_luck 39 = .ok (.lconst 1, 1) := by decide +kernel
theorem dX12_luck_40 : decode cX12_luck 40 = .ok (.goto 4, 3) := by decide +kernel
theorem dX12_luck_43 : decode cX12_luck 43 = .ok (.lconst 0, 1) := by decide +kernel
theorem dX12_luck_44 : decode cX12_luck 44 = .ok (.lastore, 1) := by decide +kernel
theorem dX12_luck_45 : decode cX12_luck 45 = .ok (.iinc 3 1, 3) := by decide +kernel
theorem dX12_luck_48 : decode cX12_luck 48 = .ok (.goto (-24), 3) := by decide +kernel
theorem dX12_luck_51 : decode cX12_luck 51 = .ok (.iconst 0, 1) := by decide +kernel
theorem dX12_luck_52 : decode cX12_luck 52 = .ok (.istore_n 3, 1) := by decide +kernel
theorem dX12_luck_53 : decode cX12_luck 53 = .ok (.iconst 0, 1) := by decide +kernel
theorem dX12_luck_54 : decode cX12_luck 54 = .ok (.istore 4, 2) := by decide +kernel
theorem dX12_luck_56 : decode cX12_luck 56 = .ok (.aload_n 0, 1) := by decide +kernel
theorem dX12_luck_57 : decode cX12_luck 57 = .ok (.getfield 161, 3) := by decide +kernel
theorem dX12_luck_60 : decode cX12_luck 60 = .ok (.iconst 1, 1) := by decide +kernel
theorem dX12_luck_61 : decode cX12_luck 61 = .ok (.isub, 1) := by decide +kernel
theorem dX12_luck_62 : decode cX12_luck 62 = .ok (.istore 5, 2) := by decide +kernel
theorem dX12_luck_64 : decode cX12_luck 64 = .ok (.iload 5, 2) := by decide +kernel
theorem dX12_luck_66 : decode cX12_luck 66 = .ok (.ifCond .lt 159, 3) := by decide +kernel
theorem dX12_luck_69 : decode cX12_luck 69 = .ok (.iload_n 3, 1) := by decide +kernel
theorem dX12_luck_70 : decode cX12_luck 70 = .ok (.bipush 12, 2) := by decide +kernel
theorem dX12_luck_72 : decode cX12_luck 72 = .ok (.if_icmp .ge 153, 3) := by decide +kernel
theorem dX12_luck_75 : decode cX12_luck 75 = .ok (.aload_n 0, 1) := by decide +kernel
theorem dX12_luck_76 : decode cX12_luck 76 = .ok (.iload_n 1, 1) := by decide +kernel
theorem dX12_luck_77 : decode cX12_luck 77 = .ok (.iload 5, 2) := by decide +kernel
theorem dX12_luck_79 : decode cX12_luck 79 = .ok (.invokevirtual 306, 3) := by decide +kernel
theorem dX12_luck_82 : decode cX12_luck 82 = .ok (.iconst (-1), 1) := by decide +kernel
theorem dX12_luck_83 : decode cX12_luck 83 = .ok (.if_icmp .ne 6, 3) := by decide +kernel
theorem dX12_luck_86 : decode cX12_luck 86 = .ok (.goto 133, 3) := by decide +kernel
theorem dX12_luck_89 : decode cX12_luck 89 = .ok (.iinc 3 1, 3) := by decide +kernel
theorem dX12_luck_92 : decode cX12_luck 92 = .ok (.iload 4, 2) := by decide +kernel
theorem dX12_luck_94 : decode cX12_luck 94 = .ok (.aload_n 0, 1) := by decide +kernel
theorem dX12_luck_95 : decode cX12_luck 95 = .ok (.iload_n 1, 1) := by decide +kernel
theorem dX12_luck_96 : decode cX12_luck 96 = .ok (.iload 5, 2) := by decide +kernel
theorem dX12_luck_98 : decode cX12_luck 98 = .ok (.invokevirtual 410, 3) := by decide +kernel
theorem dX12_luck_101 : decode cX12_luck 101 = .ok (.invokestatic 396, 3) := by decide +kernel
theorem dX12_luck_104 : decode cX12_luck 104 = .ok (.iadd, 1) := by decide +kernel
theorem dX12_luck_105 : decode cX12_luck 105 = .ok (.istore 4, 2) := by decide +kernel
theorem dX12_luck_107 : decode cX12_luck 107 = .ok (.iconst 0, 1) := by decide +kernel
theorem dX12_luck_108 : decode cX12_luck 108 = .ok (.istore 6, 2) := by decide +kernel
theorem dX12_luck_110 : decode cX12_luck 110 = .ok (.iconst 0, 1) := by decide +kernel
theorem dX12_luck_111 : decode cX12_luck 111 = .ok (.istore 7, 2) := by decide +kernel
theorem dX12_luck_113 : decode cX12_luck 113 = .ok (.iconst 0, 1) := by decide +kernel
theorem dX12_luck_114 : decode cX12_luck 114 = .ok (.istore 8, 2) := by decide +kernel
theorem dX12_luck_116 : decode cX12_luck 116 = .ok (.iload 8, 2) := by decide +kernel
theorem dX12_luck_118 : decode cX12_luck 118 = .ok (.iconst 4, 1) := by decide +kernel
theorem dX12_luck_119 : decode cX12_luck 119 = .ok (.if_icmp .ge 44, 3) := by decide +kernel
theorem dX12_luck_122 : decode cX12_luck 122 = .ok (.aload_n 0, 1) := by decide +kernel
theorem dX12_luck_123 : decode cX12_luck 123 = .ok (.iload 8, 2) := by decide +kernel
theorem dX12_luck_125 : decode cX12_luck 125 = .ok (.iload 5, 2) := by decide +kernel
theorem dX12_luck_127 : decode cX12_luck 127 = .ok (.invokevirtual 306, 3) := by decide +kernel
theorem dX12_luck_130 : decode cX12_luck 130 = .ok (.iconst (-1), 1) := by decide +kernel
theorem dX12_luck_131 : decode cX12_luck 131 = .ok (.if_icmp .ne 6, 3) := by decide +kernel
theorem dX12_luck_134 : decode cX12_luck 134 = .ok (.goto 23, 3) := by decide +kernel
theorem dX12_luck_137 : decode cX12_luck 137 = .ok (.aload_n 0, 1) := by decide +kernel
theorem dX12_luck_138 : decode cX12_luck 138 = .ok (.iload 8, 2) := by decide +kernel
theorem dX12_luck_140 : decode cX12_luck 140 = .ok (.iload 5, 2) := by decide +kernel
theorem dX12_luck_142 : decode cX12_luck 142 = .ok (.invokevirtual 410, 3) := by decide +kernel
theorem dX12_luck_145 : decode cX12_luck 145 = .ok (.ifCond .eq 9, 3) := by decide +kernel
theorem dX12_luck_148 : decode cX12_luck 148 = .ok (.iinc 6 1, 3) := by decide +kernel
theorem dX12_luck_151 : decode cX12_luck 151 = .ok (.goto 6, 3) := by decide +kernel
theorem dX12_luck_154 : decode cX12_luck 154 = .ok (.iinc 7 1, 3) := by decide +kernel
theorem dX12_luck_157 : decode cX12_luck 157 = .ok (.iinc 8 1, 3) := by decide +kernel
theorem dX12_luck_160 : decode cX12_luck 160 = .ok (.goto (-44), 3) := by decide +kernel
theorem dX12_luck_163 : decode cX12_luck 163 = .ok (.bipush 12, 2) := by decide +kernel
theorem dX12_luck_165 : decode cX12_luck 165 = .ok (.istore 8, 2) := by decide +kernel
theorem dX12_luck_167 : decode cX12_luck 167 = .ok (.iload 8, 2) := by decide +kernel
theorem dX12_luck_169 : decode cX12_luck 169 = .ok (.ifCond .lt 50, 3) := by decide +kernel
theorem dX12_luck_172 : decode cX12_luck 172 = .ok (.aload_n 0, 1) := by decide +kernel
theorem dX12_luck_173 : decode cX12_luck 173 = .ok (.getfield 113, 3) := by decide +kernel
theorem dX12_luck_176 : decode cX12_luck 176 = .ok (.iload 8, 2) := by decide +kernel
theorem dX12_luck_178 : decode cX12_luck 178 = .ok (.aload_n 0, 1) := by decide +kernel
theorem dX12_luck_179 : decode cX12_luck 179 = .ok (.getfield 113, 3) := by decide +kernel
theorem dX12_luck_182 : decode cX12_luck 182 = .ok (.iload 8, 2) := by decide +kernel
theorem dX12_luck_184 : decode cX12_luck 184 = .ok (.laload, 1) := by decide +kernel
theorem dX12_luck_185 : decode cX12_luck 185 = .ok (.iload 7, 2) := by decide +kernel
theorem dX12_luck_187 : decode cX12_luck 187 = .ok (.i2l, 1) := by decide +kernel
theorem dX12_luck_188 : decode cX12_luck 188 = .ok (.lmul, 1) := by decide +kernel
theorem dX12_luck_189 : decode cX12_luck 189 = .ok (.iload 8, 2) := by decide +kernel
theorem dX12_luck_191 : decode cX12_luck 191 = .ok (.ifCond .le 19, 3) := by decide +kernel
theorem dX12_luck_194 : decode cX12_luck 194 = .ok (.aload_n 0, 1) := by decide +kernel
theorem dX12_luck_195 : decode cX12_luck 195 = .ok (.getfield 113, 3) := by decide +kernel
theorem dX12_luck_198 : decode cX12_luck 198 = .ok (.iload 8, 2) := by decide +kernel
theorem dX12_luck_200 : decode cX12_luck 200 = .ok (.iconst 1, 1) := by decide +kernel
theorem dX12_luck_201 : decode cX12_luck 201 = .ok (.isub, 1) := by decide +kernel
theorem dX12_luck_202 : decode cX12_luck 202 = .ok (.laload, 1) := by decide +kernel
theorem dX12_luck_203 : decode cX12_luck 203 = .ok (.iload 6, 2) := by decide +kernel
theorem dX12_luck_205 : decode cX12_luck 205 = .ok (.i2l, 1) := by decide +kernel
theorem dX12_luck_206 : decode cX12_luck 206 = .ok (.lmul, 1) := by decide +kernel
theorem dX12_luck_207 : decode cX12_luck 207 = .ok (.goto 4, 3) := by decide +kernel
theorem dX12_luck_210 : decode cX12_luck 210 = .ok (.lconst 0, 1) := by decide +kernel
theorem dX12_luck_211 : decode cX12_luck 211 = .ok (.ladd, 1) := by decide +kernel
theorem dX12_luck_212 : decode cX12_luck 212 = .ok (.lastore, 1) := by decide +kernel
theorem dX12_luck_213 : decode cX12_luck 213 = .ok (.iinc 8 (-1), 3) := by decide +kernel
theorem dX12_luck_216 : decode cX12_luck 216 = .ok (.goto (-49), 3) := by decide +kernel
theorem dX12_luck_219 : decode cX12_luck 219 = .ok (.iinc 5 (-1), 3) := by decide +kernel
theorem dX12_luck_222 : decode cX12_luck 222 = .ok (.goto (-158), 3) := by decide +kernel
theorem dX12_luck_225 : decode cX12_luck 225 = .ok (.iload_n 3, 1) := by decide +kernel
theorem dX12_luck_226 : decode cX12_luck 226 = .ok (.ifCond .ne 7, 3) := by decide +kernel
theorem dX12_luck_229 : decode cX12_luck 229 = .ok (.ldc2_w 413, 3) := by decide +kernel
theorem dX12_luck_232 : decode cX12_luck 232 = .ok (.lreturn, 1) := by decide +kernel
theorem dX12_luck_233 : decode cX12_luck 233 = .ok (.lconst 0, 1) := by decide +kernel
theorem dX12_luck_234 : decode cX12_luck 234 = .ok (.lstore 5, 2) := by decide +kernel
theorem dX12_luck_236 : decode cX12_luck 236 = .ok (.iload_n 2, 1) := by decide +kernel
theorem dX12_luck_237 : decode cX12_luck 237 = .ok (.ifCond .ne 8, 3) := by decide +kernel
theorem dX12_luck_240 : decode cX12_luck 240 = .ok (.iload 4, 2) := by decide +kernel
theorem dX12_luck_242 : decode cX12_luck 242 = .ok (.goto 4, 3) := by decide +kernel
theorem dX12_luck_245 : decode cX12_luck 245 = .ok (.iconst 0, 1) := by decide +kernel
theorem dX12_luck_246 : decode cX12_luck 246 = .ok (.istore 7, 2) := by decide +kernel
theorem dX12_luck_248 : decode cX12_luck 248 = .ok (.iload 7, 2) := by decide +kernel
theorem dX12_luck_250 : decode cX12_luck 250 = .ok (.bipush 13, 2) := by decide +kernel
theorem dX12_luck_252 : decode cX12_luck 252 = .ok (.if_icmp .ge 21, 3) := by decide +kernel
theorem dX12_luck_255 : decode cX12_luck 255 = .ok (.lload 5, 2) := by decide +kernel
theorem dX12_luck_257 : decode cX12_luck 257 = .ok (.aload_n 0, 1) := by decide +kernel
theorem dX12_luck_258 : decode cX12_luck 258 = .ok (.getfield 113, 3) := by decide +kernel
theorem dX12_luck_261 : decode cX12_luck 261 = .ok (.iload 7, 2) := by decide +kernel
theorem dX12_luck_263 : decode cX12_luck 263 = .ok (.laload, 1) := by decide +kernel
theorem dX12_luck_264 : decode cX12_luck 264 = .ok (.ladd, 1) := by decide +kernel
theorem dX12_luck_265 : decode cX12_luck 265 = .ok (.lstore 5, 2) := by decide +kernel
theorem dX12_luck_267 : decode cX12_luck 267 = .ok (.iinc 7 1, 3) := by decide +kernel
theorem dX12_luck_270 : decode cX12_luck 270 = .ok (.goto (-22), 3) := by decide +kernel
theorem dX12_luck_273 : decode cX12_luck 273 = .ok (.lload 5, 2) := by decide +kernel
theorem dX12_luck_275 : decode cX12_luck 275 = .ok (.lreturn, 1) := by decide +kernel
theorem dX12_claims_0 : decode cX12_claims 0 = .ok (.aload_n 0, 1) := by decide +kernel
theorem dX12_claims_1 : decode cX12_claims 1 = .ok (.iconst 0, 1) := by decide +kernel
theorem dX12_claims_2 : decode cX12_claims 2 = .ok (.putfield 415, 3) := by decide +kernel
theorem dX12_claims_5 : decode cX12_claims 5 = .ok (.aload_n 0, 1) := by decide +kernel
theorem dX12_claims_6 : decode cX12_claims 6 = .ok (.iconst 0, 1) := by decide +kernel
theorem dX12_claims_7 : decode cX12_claims 7 = .ok (.putfield 418, 3) := by decide +kernel
theorem dX12_claims_10 : decode cX12_claims 10 = .ok (.aload_n 0, 1) := by decide +kernel
theorem dX12_claims_11 : decode cX12_claims 11 = .ok (.getfield 161, 3) := by decide +kernel
theorem dX12_claims_14 : decode cX12_claims 14 = .ok (.istore_n 2, 1) := by decide +kernel
theorem dX12_claims_15 : decode cX12_claims 15 = .ok (.iload_n 2, 1) := by decide +kernel
theorem dX12_claims_16 : decode cX12_claims 16 = .ok (.iload_n 1, 1) := by decide +kernel
theorem dX12_claims_17 : decode cX12_claims 17 = .ok (.if_icmp .le 119, 3) := by decide +kernel
theorem dX12_claims_20 : decode cX12_claims 20 = .ok (.aload_n 0, 1) := by decide +kernel
theorem dX12_claims_21 : decode cX12_claims 21 = .ok (.getfield 418, 3) := by decide +kernel
theorem dX12_claims_24 : decode cX12_claims 24 = .ok (.bipush 40, 2) := by decide +kernel
theorem dX12_claims_26 : decode cX12_claims 26 = .ok (.if_icmp .ge 110, 3) := by decide +kernel
theorem dX12_claims_29 : decode cX12_claims 29 = .ok (.aload_n 0, 1) := by decide +kernel
theorem dX12_claims_30 : decode cX12_claims 30 = .ok (.getfield 154, 3) := by decide +kernel
theorem dX12_claims_33 : decode cX12_claims 33 = .ok (.ifCond .le 103, 3) := by decide +kernel
theorem dX12_claims_36 : decode cX12_claims 36 = .ok (.aload_n 0, 1) := by decide +kernel
theorem dX12_claims_37 : decode cX12_claims 37 = .ok (.iload_n 2, 1) := by decide +kernel
theorem dX12_claims_38 : decode cX12_claims 38 = .ok (.iload_n 1, 1) := by decide +kernel
theorem dX12_claims_39 : decode cX12_claims 39 = .ok (.isub, 1) := by decide +kernel
theorem dX12_claims_40 : decode cX12_claims 40 = .ok (.invokevirtual 317, 3) := by decide +kernel
theorem dX12_claims_43 : decode cX12_claims 43 = .ok (.aload_n 0, 1) := by decide +kernel
theorem dX12_claims_44 : decode cX12_claims 44 = .ok (.iload_n 2, 1) := by decide +kernel
theorem dX12_claims_45 : decode cX12_claims 45 = .ok (.iload_n 1, 1) := by decide +kernel
theorem dX12_claims_46 : decode cX12_claims 46 = .ok (.isub, 1) := by decide +kernel
theorem dX12_claims_47 : decode cX12_claims 47 = .ok (.iconst 1, 1) := by decide +kernel
theorem dX12_claims_48 : decode cX12_claims 48 = .ok (.isub, 1) := by decide +kernel
theorem dX12_claims_49 : decode cX12_claims 49 = .ok (.invokevirtual 317, 3) := by decide +kernel
theorem dX12_claims_52 : decode cX12_claims 52 = .ok (.isub, 1) := by decide +kernel
theorem dX12_claims_53 : decode cX12_claims 53 = .ok (.istore_n 3, 1) := by decide +kernel
theorem dX12_claims_54 : decode cX12_claims 54 = .ok (.aload_n 0, 1) := by decide +kernel
theorem dX12_claims_55 : decode cX12_claims 55 = .ok (.iload_n 2, 1) := by decide +kernel
theorem dX12_claims_56 : decode cX12_claims 56 = .ok (.invokevirtual 365, 3) := by decide +kernel
theorem dX12_claims_59 : decode cX12_claims 59 = .ok (.aload_n 0, 1) := by decide +kernel
theorem dX12_claims_60 : decode cX12_claims 60 = .ok (.iload_n 2, 1) := by decide +kernel
theorem dX12_claims_61 : decode cX12_claims 61 = .ok (.iconst 1, 1) := by decide +kernel
theorem dX12_claims_62 : decode cX12_claims 62 = .ok (.isub, 1) := by decide +kernel
theorem dX12_claims_63 : decode cX12_claims 63 = .ok (.invokevirtual 365, 3) := by decide +kernel
theorem dX12_claims_66 : decode cX12_claims 66 = .ok (.isub, 1) := by decide +kernel
theorem dX12_claims_67 : decode cX12_claims 67 = .ok (.istore 4, 2) := by decide +kernel
theorem dX12_claims_69 : decode cX12_claims 69 = .ok (.iload_n 3, 1) := by decide +kernel
theorem dX12_claims_70 : decode cX12_claims 70 = .ok (.ifCond .eq 60, 3) := by decide +kernel
theorem dX12_claims_73 : decode cX12_claims 73 = .ok (.iload 4, 2) := by decide +kernel
theorem dX12_claims_75 : decode cX12_claims 75 = .ok (.ifCond .ne 6, 3) := by decide +kernel
theorem dX12_claims_78 : decode cX12_claims 78 = .ok (.goto 52, 3) := by decide +kernel
theorem dX12_claims_81 : decode cX12_claims 81 = .ok (.aload_n 0, 1) := by decide +kernel
theorem dX12_claims_82 : decode cX12_claims 82 = .ok (.dup, 1) := by decide +kernel
theorem dX12_claims_83 : decode cX12_claims 83 = .ok (.getfield 418, 3) := by decide +kernel
theorem dX12_claims_86 : decode cX12_claims 86 = .ok (.iconst 1, 1) := by decide +kernel
theorem dX12_claims_87 : decode cX12_claims 87 = .ok (.iadd, 1) := by decide +kernel
theorem dX12_claims_88 : decode cX12_claims 88 = .ok (.putfield 418, 3) := by decide +kernel
theorem dX12_claims_91 : decode cX12_claims 91 = .ok (.aload_n 0, 1) := by decide +kernel
theorem dX12_claims_92 : decode cX12_claims 92 = .ok (.dup, 1) := by decide +kernel
theorem dX12_claims_93 : decode cX12_claims 93 = .ok (.getfield 415, 3) := by decide +kernel
theorem dX12_claims_96 : decode cX12_claims 96 = .ok (.iload_n 3, 1) := by decide +kernel
theorem dX12_claims_97 : decode cX12_claims 97 = .ok (.ifCond .le 7, 3) := by decide +kernel
theorem dX12_claims_100 : decode cX12_claims 100 = .ok (.iconst 1, 1) := by decide +kernel
theorem dX12_claims_101 : decode cX12_claims 101 = .ok (.goto 4, 3) := by decide +kernel
theorem dX12_claims_104 : decode cX12_claims 104 = .ok (.iconst 0, 1) := by decide +kernel
theorem dX12_claims_105 : decode cX12_claims 105 = .ok (.iload 4, 2) := by decide +kernel
theorem dX12_claims_107 : decode cX12_claims 107 = .ok (.ifCond .le 7, 3) := by decide +kernel
theorem dX12_claims_110 : decode cX12_claims 110 = .ok (.iconst 1, 1) := by decide +kernel
theorem dX12_claims_111 : decode cX12_claims 111 = .ok (.goto 4, 3) := by decide +kernel
theorem dX12_claims_114 : decode cX12_claims 114 = .ok (.iconst 0, 1) := by decide +kernel
theorem dX12_claims_115 : decode cX12_claims 115 = .ok (.if_icmp .ne 7, 3) := by decide +kernel
theorem dX12_claims_118 : decode cX12_claims 118 = .ok (.iconst 1, 1) := by decide +kernel
theorem dX12_claims_119 : decode cX12_claims 119 = .ok (.goto 4, 3) := by decide +kernel
theorem dX12_claims_122 : decode cX12_claims 122 = .ok (.iconst 0, 1) := by decide +kernel
theorem dX12_claims_123 : decode cX12_claims 123 = .ok (.invokestatic 396, 3) := by decide +kernel
theorem dX12_claims_126 : decode cX12_claims 126 = .ok (.iadd, 1) := by decide +kernel
theorem dX12_claims_127 : decode cX12_claims 127 = .ok (.putfield 415, 3) := by decide +kernel
theorem dX12_claims_130 : decode cX12_claims 130 = .ok (.iinc 2 (-1), 3) := by decide +kernel
theorem dX12_claims_133 : decode cX12_claims 133 = .ok (.goto (-118), 3) := by decide +kernel
theorem dX12_claims_136 : decode cX12_claims 136 = .ok (.return_, 1) := by decide +kernel
theorem dX12_atLeast_0 : decode cX12_atLeast 0 = .ok (.iconst 0, 1) := by decide +kernel
theorem dX12_atLeast_1 : decode cX12_atLeast 1 = .ok (.istore_n 3, 1) := by decide +kernel
theorem dX12_atLeast_2 : decode cX12_atLeast 2 = .ok (.iload_n 3, 1) := by decide +kernel
theorem dX12_atLeast_3 : decode cX12_atLeast 3 = .ok (.bipush 41, 2) := by decide +kernel
theorem dX12_atLeast_5 : decode cX12_atLeast 5 = .ok (.if_icmp .ge 24, 3) := by decide +kernel
theorem dX12_atLeast_8 : decode cX12_atLeast 8 = .ok (.aload_n 0, 1) := by decide +kernel
theorem dX12_atLeast_9 : decode cX12_atLeast 9 = .ok (.getfield 117, 3) := by decide +kernel
theorem dX12_atLeast_12 : decode cX12_atLeast 12 = .ok (.iload_n 3, 1) := by decide +kernel
theorem dX12_atLeast_13 : decode cX12_atLeast 13 = .ok (.iload_n 3, 1) := by decide +kernel
theorem dX12_atLeast_14 : decode cX12_atLeast 14 = .ok (.ifCond .ne 7, 3) := by decide +kernel
theorem dX12_atLeast_17 : decode cX12_atLeast 17 = .ok (.lconst 1, 1) := by decide +kernel
theorem dX12_atLeast_18 : decode cX12_atLeast 18 = .ok (.goto 4, 3) := by decide +kernel
theorem dX12_atLeast_21 : decode cX12_atLeast 21 = .ok (.lconst 0, 1) := by decide +kernel
theorem dX12_atLeast_22 : decode cX12_atLeast 22 = .ok (.lastore, 1) := by decide +kernel
theorem dX12_atLeast_23 : decode cX12_atLeast 23 = .ok (.iinc 3 1, 3) := by decide +kernel
theorem dX12_atLeast_26 : decode cX12_atLeast 26 = .ok (.goto (-24), 3) := by decide +kernel
theorem dX12_atLeast_29 : decode cX12_atLeast 29 = .ok (.iconst 0, 1) := by decide +kernel
theorem dX12_atLeast_30 : decode cX12_atLeast 30 = .ok (.istore_n 3, 1) := by decide +kernel
theorem dX12_atLeast_31 : decode cX12_atLeast 31 = .ok (.iload_n 3, 1) := by decide +kernel
theorem dX12_atLeast_32 : decode cX12_atLeast 32 = .ok (.iload_n 1, 1) := by decide +kernel
theorem dX12_atLeast_33 : decode cX12_atLeast 33 = .ok (.if_icmp .ge 43, 3) := by decide +kernel
theorem dX12_atLeast_36 : decode cX12_atLeast 36 = .ok (.bipush 40, 2) := by decide +kernel
theorem dX12_atLeast_38 : decode cX12_atLeast 38 = .ok (.istore 4, 2) := by decide +kernel
theorem dX12_atLeast_40 : decode cX12_atLeast 40 = .ok (.iload 4, 2) := by decide +kernel
theorem dX12_atLeast_42 : decode cX12_atLeast 42 = .ok (.ifCond .le 28, 3) := by decide +kernel
theorem dX12_atLeast_45 : decode cX12_atLeast 45 = .ok (.aload_n 0, 1) := by decide +kernel
theorem dX12_atLeast_46 : decode cX12_atLeast 46 = .ok (.getfield 117, 3) := by decide +kernel
theorem dX12_atLeast_49 : decode cX12_atLeast 49 = .ok (.iload 4, 2) := by decide +kernel
theorem dX12_atLeast_51 : decode cX12_atLeast 51 = .ok (.dup2, 1) := by decide +kernel
theorem dX12_atLeast_52 : decode cX12_atLeast 52 = .ok (.laload, 1) := by decide +kernel
theorem dX12_atLeast_53 : decode cX12_atLeast 53 = .ok (.aload_n 0, 1) := by decide +kernel
theorem dX12_atLeast_54 : decode cX12_atLeast 54 = .ok (.getfield 117, 3) := by decide +kernel
theorem dX12_atLeast_57 : decode cX12_atLeast 57 = .ok (.iload 4, 2) := by decide +kernel
theorem dX12_atLeast_59 : decode cX12_atLeast 59 = .ok (.iconst 1, 1) := by decide +kernel
theorem dX12_atLeast_60 : decode cX12_atLeast 60 = .ok (.isub, 1) := by decide +kernel
theorem dX12_atLeast_61 : decode cX12_atLeast 61 = .ok (.laload, 1) := by decide +kernel
theorem dX12_atLeast_62 : decode cX12_atLeast 62 = .ok (.ladd, 1) := by decide +kernel
theorem dX12_atLeast_63 : decode cX12_atLeast 63 = .ok (.lastore, 1) := by decide +kernel
theorem dX12_atLeast_64 : decode cX12_atLeast 64 = .ok (.iinc 4 (-1), 3) := by decide +kernel
theorem dX12_atLeast_67 : decode cX12_atLeast 67 = .ok (.goto (-27), 3) := by decide +kernel
theorem dX12_atLeast_70 : decode cX12_atLeast 70 = .ok (.iinc 3 1, 3) := by decide +kernel
theorem dX12_atLeast_73 : decode cX12_atLeast 73 = .ok (.goto (-42), 3) := by decide +kernel
theorem dX12_atLeast_76 : decode cX12_atLeast 76 = .ok (.lconst 0, 1) := by decide +kernel
theorem dX12_atLeast_77 : decode cX12_atLeast 77 = .ok (.lstore_n 3, 1) := by decide +kernel
theorem dX12_atLeast_78 : decode cX12_atLeast 78 = .ok (.iload_n 2, 1) := by decide +kernel
theorem dX12_atLeast_79 : decode cX12_atLeast 79 = .ok (.istore 5, 2) := by decide +kernel
theorem dX12_atLeast_81 : decode cX12_atLeast 81 = .ok (.iload 5, 2) := by decide +kernel
theorem dX12_atLeast_83 : decode cX12_atLeast 83 = .ok (.iload_n 1, 1) := by decide +kernel
theorem dX12_atLeast_84 : decode cX12_atLeast 84 = .ok (.if_icmp .gt 19, 3) := by decide +kernel
theorem dX12_atLeast_87 : decode cX12_atLeast 87 = .ok (.lload_n 3, 1) := by decide +kernel
theorem dX12_atLeast_88 : decode cX12_atLeast 88 = .ok (.aload_n 0, 1) := by decide +kernel
theorem dX12_atLeast_89 : decode cX12_atLeast 89 = .ok (.getfield 117, 3) := by decide +kernel
theorem dX12_atLeast_92 : decode cX12_atLeast 92 = .ok (.iload 5, 2) := by decide +kernel
theorem dX12_atLeast_94 : decode cX12_atLeast 94 = .ok (.laload, 1) := by decide +kernel
theorem dX12_atLeast_95 : decode cX12_atLeast 95 = .ok (.ladd, 1) := by decide +kernel
theorem dX12_atLeast_96 : decode cX12_atLeast 96 = .ok (.lstore_n 3, 1) := by decide +kernel
theorem dX12_atLeast_97 : decode cX12_atLeast 97 = .ok (.iinc 5 1, 3) := by decide +kernel
theorem dX12_atLeast_100 : decode cX12_atLeast 100 = .ok (.goto (-19), 3) := by decide +kernel
theorem dX12_atLeast_103 : decode cX12_atLeast 103 = .ok (.lload_n 3, 1) := by decide +kernel
theorem dX12_atLeast_104 : decode cX12_atLeast 104 = .ok (.lreturn, 1) := by decide +kernel
theorem dX12_claim_0 : decode cX12_claim 0 = .ok (.iload_n 1, 1) := by decide +kernel
theorem dX12_claim_1 : decode cX12_claim 1 = .ok (.iconst 0, 1) := by decide +kernel
theorem dX12_claim_2 : decode cX12_claim 2 = .ok (.bipush 9, 2) := by decide +kernel
theorem dX12_claim_4 : decode cX12_claim 4 = .ok (.invokestatic 157, 3) := by decide +kernel
theorem dX12_claim_7 : decode cX12_claim 7 = .ok (.ifCond .eq 12, 3) := by decide +kernel
theorem dX12_claim_10 : decode cX12_claim 10 = .ok (.iload_n 2, 1) := by decide +kernel
theorem dX12_claim_11 : decode cX12_claim 11 = .ok (.iconst 0, 1) := by decide +kernel
theorem dX12_claim_12 : decode cX12_claim 12 = .ok (.iconst 2, 1) := by decide +kernel
theorem dX12_claim_13 : decode cX12_claim 13 = .ok (.invokestatic 157, 3) := by decide +kernel
theorem dX12_claim_16 : decode cX12_claim 16 = .ok (.ifCond .ne 7, 3) := by decide +kernel
theorem dX12_claim_19 : decode cX12_claim 19 = .ok (.ldc2_w 413, 3) := by decide +kernel
theorem dX12_claim_22 : decode cX12_claim 22 = .ok (.lreturn, 1) := by decide +kernel
theorem dX12_claim_23 : decode cX12_claim 23 = .ok (.aload_n 0, 1) := by decide +kernel
theorem dX12_claim_24 : decode cX12_claim 24 = .ok (.iload_n 1, 1) := by decide +kernel
theorem dX12_claim_25 : decode cX12_claim 25 = .ok (.invokevirtual 421, 3) := by decide +kernel
theorem dX12_claim_28 : decode cX12_claim 28 = .ok (.iload_n 2, 1) := by decide +kernel
theorem dX12_claim_29 : decode cX12_claim 29 = .ok (.ifCond .ne 11, 3) := by decide +kernel
theorem dX12_claim_32 : decode cX12_claim 32 = .ok (.aload_n 0, 1) := by decide +kernel
theorem dX12_claim_33 : decode cX12_claim 33 = .ok (.getfield 415, 3) := by decide +kernel
theorem dX12_claim_36 : decode cX12_claim 36 = .ok (.i2l, 1) := by decide +kernel
theorem dX12_claim_37 : decode cX12_claim 37 = .ok (.goto 28, 3) := by decide +kernel
theorem dX12_claim_40 : decode cX12_claim 40 = .ok (.iload_n 2, 1) := by decide +kernel
theorem dX12_claim_41 : decode cX12_claim 41 = .ok (.iconst 1, 1) := by decide +kernel
theorem dX12_claim_42 : decode cX12_claim 42 = .ok (.if_icmp .ne 11, 3) := by decide +kernel
theorem dX12_claim_45 : decode cX12_claim 45 = .ok (.aload_n 0, 1) := by decide +kernel
theorem dX12_claim_46 : decode cX12_claim 46 = .ok (.getfield 418, 3) := by decide +kernel
theorem dX12_claim_49 : decode cX12_claim 49 = .ok (.i2l, 1) := by decide +kernel
theorem dX12_claim_50 : decode cX12_claim 50 = .ok (.goto 15, 3) := by decide +kernel
theorem dX12_claim_53 : decode cX12_claim 53 = .ok (.aload_n 0, 1) := by decide +kernel
theorem dX12_claim_54 : decode cX12_claim 54 = .ok (.aload_n 0, 1) := by decide +kernel
theorem dX12_claim_55 : decode cX12_claim 55 = .ok (.getfield 418, 3) := by decide +kernel
theorem dX12_claim_58 : decode cX12_claim 58 = .ok (.aload_n 0, 1) := by decide +kernel
theorem dX12_claim_59 : decode cX12_claim 59 = .ok (.getfield 415, 3) := by decide +kernel
theorem dX12_claim_62 : decode cX12_claim 62 = .ok (.invokevirtual 424, 3) := by decide +kernel
theorem dX12_claim_65 : decode cX12_claim 65 = .ok (.lreturn, 1) := by decide +kernel
theorem dX12_best_0 : decode cX12_best 0 = .ok (.iconst (-1), 1) := by decide +kernel
theorem dX12_best_1 : decode cX12_best 1 = .ok (.istore_n 1, 1) := by decide +kernel
theorem dX12_best_2 : decode cX12_best 2 = .ok (.lconst 0, 1) := by decide +kernel
theorem dX12_best_3 : decode cX12_best 3 = .ok (.lstore_n 2, 1) := by decide +kernel
theorem dX12_best_4 : decode cX12_best 4 = .ok (.iconst 0, 1) := by decide +kernel
theorem dX12_best_5 : decode cX12_best 5 = .ok (.istore 4, 2) := by decide +kernel
theorem dX12_best_7 : decode cX12_best 7 = .ok (.iload 4, 2) := by decide +kernel
theorem dX12_best_9 : decode cX12_best 9 = .ok (.bipush 10, 2) := by decide +kernel
theorem dX12_best_11 : decode cX12_best 11 = .ok (.if_icmp .ge 68, 3) := by decide +kernel
theorem dX12_best_14 : decode cX12_best 14 = .ok (.aload_n 0, 1) := by decide +kernel
theorem dX12_best_15 : decode cX12_best 15 = .ok (.iload 4, 2) := by decide +kernel
theorem dX12_best_17 : decode cX12_best 17 = .ok (.invokevirtual 421, 3) := by decide +kernel
theorem dX12_best_20 : decode cX12_best 20 = .ok (.aload_n 0, 1) := by decide +kernel
theorem dX12_best_21 : decode cX12_best 21 = .ok (.getfield 418, 3) := by decide +kernel
theorem dX12_best_24 : decode cX12_best 24 = .ok (.ifCond .ne 6, 3) := by decide +kernel
theorem dX12_best_27 : decode cX12_best 27 = .ok (.goto 46, 3) := by decide +kernel
theorem dX12_best_30 : decode cX12_best 30 = .ok (.aload_n 0, 1) := by decide +kernel
theorem dX12_best_31 : decode cX12_best 31 = .ok (.aload_n 0, 1) := by decide +kernel
theorem dX12_best_32 : decode cX12_best 32 = .ok (.getfield 418, 3) := by decide +kernel
theorem dX12_best_35 : decode cX12_best 35 = .ok (.aload_n 0, 1) := by decide +kernel
theorem dX12_best_36 : decode cX12_best 36 = .ok (.getfield 415, 3) := by decide +kernel
theorem dX12_best_39 : decode cX12_best 39 = .ok (.invokevirtual 424, 3) := by decide +kernel
theorem dX12_best_42 : decode cX12_best 42 = .ok (.bipush 40, 2) := by decide +kernel
theorem dX12_best_44 : decode cX12_best 44 = .ok (.aload_n 0, 1) := by decide +kernel
theorem dX12_best_45 : decode cX12_best 45 = .ok (.getfield 418, 3) := by decide +kernel
theorem dX12_best_48 : decode cX12_best 48 = .ok (.isub, 1) := by decide +kernel
theorem dX12_best_49 : decode cX12_best 49 = .ok (.lshl, 1) := by decide +kernel
theorem dX12_best_50 : decode cX12_best 50 = .ok (.lstore 5, 2) := by decide +kernel
theorem dX12_best_52 : decode cX12_best 52 = .ok (.iload_n 1, 1) := by decide +kernel
theorem dX12_best_53 : decode cX12_best 53 = .ok (.iconst (-1), 1) := by decide +kernel
theorem dX12_best_54 : decode cX12_best 54 = .ok (.if_icmp .eq 13, 3) := by decide +kernel
theorem dX12_best_57 : decode cX12_best 57 = .ok (.lload 5, 2) := by decide +kernel
theorem dX12_best_59 : decode cX12_best 59 = .ok (.lload_n 2, 1) := by decide +kernel
theorem dX12_best_60 : decode cX12_best 60 = .ok (.lcmp, 1) := by decide +kernel
theorem dX12_best_61 : decode cX12_best 61 = .ok (.ifCond .lt 6, 3) := by decide +kernel
theorem dX12_best_64 : decode cX12_best 64 = .ok (.goto 9, 3) := by decide +kernel
theorem dX12_best_67 : decode cX12_best 67 = .ok (.iload 4, 2) := by decide +kernel
theorem dX12_best_69 : decode cX12_best 69 = .ok (.istore_n 1, 1) := by decide +kernel
theorem dX12_best_70 : decode cX12_best 70 = .ok (.lload 5, 2) := by decide +kernel
theorem dX12_best_72 : decode cX12_best 72 = .ok (.lstore_n 2, 1) := by decide +kernel
theorem dX12_best_73 : decode cX12_best 73 = .ok (.iinc 4 1, 3) := by decide +kernel
theorem dX12_best_76 : decode cX12_best 76 = .ok (.goto (-69), 3) := by decide +kernel
theorem dX12_best_79 : decode cX12_best 79 = .ok (.iload_n 1, 1) := by decide +kernel
theorem dX12_best_80 : decode cX12_best 80 = .ok (.ireturn, 1) := by decide +kernel
theorem dX12_plate_0 : decode cX12_plate 0 = .ok (.iload_n 1, 1) := by decide +kernel
theorem dX12_plate_1 : decode cX12_plate 1 = .ok (.iconst 0, 1) := by decide +kernel
theorem dX12_plate_2 : decode cX12_plate 2 = .ok (.iconst 3, 1) := by decide +kernel
theorem dX12_plate_3 : decode cX12_plate 3 = .ok (.invokestatic 157, 3) := by decide +kernel
theorem dX12_plate_6 : decode cX12_plate 6 = .ok (.ifCond .eq 33, 3) := by decide +kernel
theorem dX12_plate_9 : decode cX12_plate 9 = .ok (.iload_n 2, 1) := by decide +kernel
theorem dX12_plate_10 : decode cX12_plate 10 = .ok (.iconst 0, 1) := by decide +kernel
theorem dX12_plate_11 : decode cX12_plate 11 = .ok (.sipush 200, 3) := by decide +kernel
theorem dX12_plate_14 : decode cX12_plate 14 = .ok (.invokestatic 157, 3) := by decide +kernel
theorem dX12_plate_17 : decode cX12_plate 17 = .ok (.ifCond .eq 22, 3) := by decide +kernel
theorem dX12_plate_20 : decode cX12_plate 20 = .ok (.iload_n 3, 1) := by decide +kernel
theorem dX12_plate_21 : decode cX12_plate 21 = .ok (.iconst 0, 1) := by decide +kernel
theorem dX12_plate_22 : decode cX12_plate 22 = .ok (.bipush 60, 2) := by decide +kernel
theorem dX12_plate_24 : decode cX12_plate 24 = .ok (.invokestatic 157, 3) := by decide +kernel
theorem dX12_plate_27 : decode cX12_plate 27 = .ok (.ifCond .eq 12, 3) := by decide +kernel
theorem dX12_plate_30 : decode cX12_plate 30 = .ok (.aload_n 0, 1) := by decide +kernel
theorem dX12_plate_31 : decode cX12_plate 31 = .ok (.getfield 428, 3) := by decide +kernel
theorem dX12_plate_34 : decode cX12_plate 34 = .ok (.bipush 60, 2) := by decide +kernel
theorem dX12_plate_36 : decode cX12_plate 36 = .ok (.if_icmp .ne 5, 3) := by decide +kernel
theorem dX12_plate_39 : decode cX12_plate 39 = .ok (.iconst (-1), 1) := by decide +kernel
theorem dX12_plate_40 : decode cX12_plate 40 = .ok (.ireturn, 1) := by decide +kernel
theorem dX12_plate_41 : decode cX12_plate 41 = .ok (.aload_n 0, 1) := by decide +kernel
theorem dX12_plate_42 : decode cX12_plate 42 = .ok (.getfield 120, 3) := by decide +kernel
theorem dX12_plate_45 : decode cX12_plate 45 = .ok (.aload_n 0, 1) := by decide +kernel
theorem dX12_plate_46 : decode cX12_plate 46 = .ok (.getfield 428, 3) := by decide +kernel
theorem dX12_plate_49 : decode cX12_plate 49 = .ok (.iload_n 1, 1) := by decide +kernel
theorem dX12_plate_50 : decode cX12_plate 50 = .ok (.iastore, 1) := by decide +kernel
theorem dX12_plate_51 : decode cX12_plate 51 = .ok (.aload_n 0, 1) := by decide +kernel
theorem dX12_plate_52 : decode cX12_plate 52 = .ok (.getfield 123, 3) := by decide +kernel
theorem dX12_plate_55 : decode cX12_plate 55 = .ok (.aload_n 0, 1) := by decide +kernel
theorem dX12_plate_56 : decode cX12_plate 56 = .ok (.getfield 428, 3) := by decide +kernel
theorem dX12_plate_59 : decode cX12_plate 59 = .ok (.iload_n 2, 1) := by decide +kernel
theorem dX12_plate_60 : decode cX12_plate 60 = .ok (.iastore, 1) := by decide +kernel
theorem dX12_plate_61 : decode cX12_plate 61 = .ok (.aload_n 0, 1) := by decide +kernel
theorem dX12_plate_62 : decode cX12_plate 62 = .ok (.getfield 126, 3) := by decide +kernel
theorem dX12_plate_65 : decode cX12_plate 65 = .ok (.aload_n 0, 1) := by decide +kernel
theorem dX12_plate_66 : decode cX12_plate 66 = .ok (.getfield 428, 3) := by decide +kernel
theorem dX12_plate_69 : decode cX12_plate 69 = .ok (.iload_n 3, 1) := by decide +kernel
theorem dX12_plate_70 : decode cX12_plate 70 = .ok (.iastore, 1) := by decide +kernel
theorem dX12_plate_71 : decode cX12_plate 71 = .ok (.aload_n 0, 1) := by decide +kernel
theorem dX12_plate_72 : decode cX12_plate 72 = .ok (.dup, 1) := by decide +kernel
theorem dX12_plate_73 : decode cX12_plate 73 = .ok (.getfield 428, 3) := by decide +kernel
theorem dX12_plate_76 : decode cX12_plate 76 = .ok (.iconst 1, 1) := by decide +kernel
theorem dX12_plate_77 : decode cX12_plate 77 = .ok (.iadd, 1) := by decide +kernel
theorem dX12_plate_78 : decode cX12_plate 78 = .ok (.putfield 428, 3) := by decide +kernel
theorem dX12_plate_81 : decode cX12_plate 81 = .ok (.aload_n 0, 1) := by decide +kernel
theorem dX12_plate_82 : decode cX12_plate 82 = .ok (.getfield 428, 3) := by decide +kernel
theorem dX12_plate_85 : decode cX12_plate 85 = .ok (.ireturn, 1) := by decide +kernel
theorem dX12_isWithin_0 : decode cX12_isWithin 0 = .ok (.iconst 0, 1) := by decide +kernel
theorem dX12_isWithin_1 : decode cX12_isWithin 1 = .ok (.istore_n 3, 1) := by decide +kernel
theorem dX12_isWithin_2 : decode cX12_isWithin 2 = .ok (.iconst 0, 1) := by decide +kernel
theorem dX12_isWithin_3 : decode cX12_isWithin 3 = .ok (.istore 4, 2) := by decide +kernel
theorem dX12_isWithin_5 : decode cX12_isWithin 5 = .ok (.iconst 0, 1) := by decide +kernel
theorem dX12_isWithin_6 : decode cX12_isWithin 6 = .ok (.istore 5, 2) := by decide +kernel
theorem dX12_isWithin_8 : decode cX12_isWithin 8 = .ok (.iload 5, 2) := by decide +kernel
theorem dX12_isWithin_10 : decode cX12_isWithin 10 = .ok (.aload_n 0, 1) := by decide +kernel
theorem dX12_isWithin_11 : decode cX12_isWithin 11 = .ok (.getfield 154, 3) := by decide +kernel
theorem dX12_isWithin_14 : decode cX12_isWithin 14 = .ok (.if_icmp .ge 53, 3) := by decide +kernel
theorem dX12_isWithin_17 : decode cX12_isWithin 17 = .ok (.iload_n 3, 1) := by decide +kernel
theorem dX12_isWithin_18 : decode cX12_isWithin 18 = .ok (.ifCond .ne 14, 3) := by decide +kernel
theorem dX12_isWithin_21 : decode cX12_isWithin 21 = .ok (.aload_n 0, 1) := by decide +kernel
theorem dX12_isWithin_22 : decode cX12_isWithin 22 = .ok (.iload 5, 2) := by decide +kernel
theorem dX12_isWithin_24 : decode cX12_isWithin 24 = .ok (.iload_n 2, 1) := by decide +kernel
theorem dX12_isWithin_25 : decode cX12_isWithin 25 = .ok (.invokevirtual 302, 3) := by decide +kernel
theorem dX12_isWithin_28 : decode cX12_isWithin 28 = .ok (.iload_n 1, 1) := by decide +kernel
theorem dX12_isWithin_29 : decode cX12_isWithin 29 = .ok (.if_icmp .gt 7, 3) := by decide +kernel
theorem dX12_isWithin_32 : decode cX12_isWithin 32 = .ok (.iconst 1, 1) := by decide +kernel
theorem dX12_isWithin_33 : decode cX12_isWithin 33 = .ok (.goto 4, 3) := by decide +kernel
theorem dX12_isWithin_36 : decode cX12_isWithin 36 = .ok (.iconst 0, 1) := by decide +kernel
theorem dX12_isWithin_37 : decode cX12_isWithin 37 = .ok (.istore_n 3, 1) := by decide +kernel
theorem dX12_isWithin_38 : decode cX12_isWithin 38 = .ok (.iload 4, 2) := by decide +kernel
theorem dX12_isWithin_40 : decode cX12_isWithin 40 = .ok (.ifCond .ne 14, 3) := by decide +kernel
theorem dX12_isWithin_43 : decode cX12_isWithin 43 = .ok (.aload_n 0, 1) := by decide +kernel
theorem dX12_isWithin_44 : decode cX12_isWithin 44 = .ok (.iload 5, 2) := by decide +kernel
theorem dX12_isWithin_46 : decode cX12_isWithin 46 = .ok (.iload_n 2, 1) := by decide +kernel
theorem dX12_isWithin_47 : decode cX12_isWithin 47 = .ok (.invokevirtual 302, 3) := by decide +kernel
theorem dX12_isWithin_50 : decode cX12_isWithin 50 = .ok (.iload_n 1, 1) := by decide +kernel
theorem dX12_isWithin_51 : decode cX12_isWithin 51 = .ok (.if_icmp .lt 7, 3) := by decide +kernel
theorem dX12_isWithin_54 : decode cX12_isWithin 54 = .ok (.iconst 1, 1) := by decide +kernel
theorem dX12_isWithin_55 : decode cX12_isWithin 55 = .ok (.goto 4, 3) := by decide +kernel
theorem dX12_isWithin_58 : decode cX12_isWithin 58 = .ok (.iconst 0, 1) := by decide +kernel
theorem dX12_isWithin_59 : decode cX12_isWithin 59 = .ok (.istore 4, 2) := by decide +kernel
theorem dX12_isWithin_61 : decode cX12_isWithin 61 = .ok (.iinc 5 1, 3) := by decide +kernel
theorem dX12_isWithin_64 : decode cX12_isWithin 64 = .ok (.goto (-56), 3) := by decide +kernel
theorem dX12_isWithin_67 : decode cX12_isWithin 67 = .ok (.iload_n 3, 1) := by decide +kernel
theorem dX12_isWithin_68 : decode cX12_isWithin 68 = .ok (.ifCond .eq 12, 3) := by decide +kernel
theorem dX12_isWithin_71 : decode cX12_isWithin 71 = .ok (.iload 4, 2) := by decide +kernel
theorem dX12_isWithin_73 : decode cX12_isWithin 73 = .ok (.ifCond .eq 7, 3) := by decide +kernel
theorem dX12_isWithin_76 : decode cX12_isWithin 76 = .ok (.iconst 1, 1) := by decide +kernel
theorem dX12_isWithin_77 : decode cX12_isWithin 77 = .ok (.goto 4, 3) := by decide +kernel
theorem dX12_isWithin_80 : decode cX12_isWithin 80 = .ok (.iconst 0, 1) := by decide +kernel
theorem dX12_isWithin_81 : decode cX12_isWithin 81 = .ok (.ireturn, 1) := by decide +kernel
theorem dX12_off_0 : decode cX12_off 0 = .ok (.iload_n 1, 1) := by decide +kernel
theorem dX12_off_1 : decode cX12_off 1 = .ok (.iconst 0, 1) := by decide +kernel
theorem dX12_off_2 : decode cX12_off 2 = .ok (.iconst 3, 1) := by decide +kernel
theorem dX12_off_3 : decode cX12_off 3 = .ok (.invokestatic 157, 3) := by decide +kernel
theorem dX12_off_6 : decode cX12_off 6 = .ok (.ifCond .eq 19, 3) := by decide +kernel
theorem dX12_off_9 : decode cX12_off 9 = .ok (.iload_n 2, 1) := by decide +kernel
theorem dX12_off_10 : decode cX12_off 10 = .ok (.iconst 0, 1) := by decide +kernel
theorem dX12_off_11 : decode cX12_off 11 = .ok (.iconst 2, 1) := by decide +kernel
theorem dX12_off_12 : decode cX12_off 12 = .ok (.invokestatic 157, 3) := by decide +kernel
theorem dX12_off_15 : decode cX12_off 15 = .ok (.ifCond .eq 10, 3) := by decide +kernel
theorem dX12_off_18 : decode cX12_off 18 = .ok (.aload_n 0, 1) := by decide +kernel
theorem dX12_off_19 : decode cX12_off 19 = .ok (.getfield 154, 3) := by decide +kernel
theorem dX12_off_22 : decode cX12_off 22 = .ok (.ifCond .ne 5, 3) := by decide +kernel
theorem dX12_off_25 : decode cX12_off 25 = .ok (.iconst (-1), 1) := by decide +kernel
theorem dX12_off_26 : decode cX12_off 26 = .ok (.ireturn, 1) := by decide +kernel
theorem dX12_off_27 : decode cX12_off 27 = .ok (.iconst 0, 1) := by decide +kernel
theorem dX12_off_28 : decode cX12_off 28 = .ok (.istore_n 3, 1) := by decide +kernel
theorem dX12_off_29 : decode cX12_off 29 = .ok (.iconst 0, 1) := by decide +kernel
theorem dX12_off_30 : decode cX12_off 30 = .ok (.istore 4, 2) := by decide +kernel
theorem dX12_off_32 : decode cX12_off 32 = .ok (.iload 4, 2) := by decide +kernel
theorem dX12_off_34 : decode cX12_off 34 = .ok (.aload_n 0, 1) := by decide +kernel
theorem dX12_off_35 : decode cX12_off 35 = .ok (.getfield 428, 3) := by decide +kernel
theorem dX12_off_38 : decode cX12_off 38 = .ok (.if_icmp .ge 106, 3) := by decide +kernel
theorem dX12_off_41 : decode cX12_off 41 = .ok (.aload_n 0, 1) := by decide +kernel
theorem dX12_off_42 : decode cX12_off 42 = .ok (.getfield 120, 3) := by decide +kernel
theorem dX12_off_45 : decode cX12_off 45 = .ok (.iload 4, 2) := by decide +kernel
theorem dX12_off_47 : decode cX12_off 47 = .ok (.iaload, 1) := by decide +kernel
theorem dX12_off_48 : decode cX12_off 48 = .ok (.iload_n 1, 1) := by decide +kernel
theorem dX12_off_49 : decode cX12_off 49 = .ok (.if_icmp .ne 89, 3) := by decide +kernel
theorem dX12_off_52 : decode cX12_off 52 = .ok (.aload_n 0, 1) := by decide +kernel
theorem dX12_off_53 : decode cX12_off 53 = .ok (.aload_n 0, 1) := by decide +kernel
theorem dX12_off_54 : decode cX12_off 54 = .ok (.getfield 123, 3) := by decide +kernel
theorem dX12_off_57 : decode cX12_off 57 = .ok (.iload 4, 2) := by decide +kernel
theorem dX12_off_59 : decode cX12_off 59 = .ok (.iaload, 1) := by decide +kernel
theorem dX12_off_60 : decode cX12_off 60 = .ok (.invokevirtual 362, 3) := by decide +kernel
theorem dX12_off_63 : decode cX12_off 63 = .ok (.ifCond .ne 6, 3) := by decide +kernel
theorem dX12_off_66 : decode cX12_off 66 = .ok (.goto 72, 3) := by decide +kernel
theorem dX12_off_69 : decode cX12_off 69 = .ok (.iload_n 3, 1) := by decide +kernel
theorem dX12_off_70 : decode cX12_off 70 = .ok (.iload_n 2, 1) := by decide +kernel
theorem dX12_off_71 : decode cX12_off 71 = .ok (.ifCond .ne 31, 3) := by decide +kernel
theorem dX12_off_74 : decode cX12_off 74 = .ok (.bipush 100, 2) := by decide +kernel
theorem dX12_off_76 : decode cX12_off 76 = .ok (.aload_n 0, 1) := by decide +kernel
theorem dX12_off_77 : decode cX12_off 77 = .ok (.getfield 126, 3) := by decide +kernel
theorem dX12_off_80 : decode cX12_off 80 = .ok (.iload 4, 2) := by decide +kernel
theorem dX12_off_82 : decode cX12_off 82 = .ok (.iaload, 1) := by decide +kernel
theorem dX12_off_83 : decode cX12_off 83 = .ok (.imul, 1) := by decide +kernel
theorem dX12_off_84 : decode cX12_off 84 = .ok (.aload_n 0, 1) := by decide +kernel
theorem dX12_off_85 : decode cX12_off 85 = .ok (.aload_n 0, 1) := by decide +kernel
theorem dX12_off_86 : decode cX12_off 86 = .ok (.getfield 123, 3) := by decide +kernel
theorem dX12_off_89 : decode cX12_off 89 = .ok (.iload 4, 2) := by decide +kernel
theorem dX12_off_91 : decode cX12_off 91 = .ok (.iaload, 1) := by decide +kernel
theorem dX12_off_92 : decode cX12_off 92 = .ok (.invokevirtual 365, 3) := by decide +kernel
theorem dX12_off_95 : decode cX12_off 95 = .ok (.isub, 1) := by decide +kernel
theorem dX12_off_96 : decode cX12_off 96 = .ok (.invokestatic 337, 3) := by decide +kernel
theorem dX12_off_99 : decode cX12_off 99 = .ok (.goto 37, 3) := by decide +kernel
theorem dX12_off_102 : decode cX12_off 102 = .ok (.iload_n 2, 1) := by decide +kernel
theorem dX12_off_103 : decode cX12_off 103 = .ok (.iconst 1, 1) := by decide +kernel
theorem dX12_off_104 : decode cX12_off 104 = .ok (.if_icmp .eq 24, 3) := by decide +kernel
theorem dX12_off_107 : decode cX12_off 107 = .ok (.aload_n 0, 1) := by decide +kernel
theorem dX12_off_108 : decode cX12_off 108 = .ok (.aload_n 0, 1) := by decide +kernel
theorem dX12_off_109 : decode cX12_off 109 = .ok (.getfield 126, 3) := by decide +kernel
theorem dX12_off_112 : decode cX12_off 112 = .ok (.iload 4, 2) := by decide +kernel
theorem dX12_off_114 : decode cX12_off 114 = .ok (.iaload, 1) := by decide +kernel
theorem dX12_off_115 : decode cX12_off 115 = .ok (.aload_n 0, 1) := by decide +kernel
theorem dX12_off_116 : decode cX12_off 116 = .ok (.getfield 123, 3) := by decide +kernel
theorem dX12_off_119 : decode cX12_off 119 = .ok (.iload 4, 2) := by decide +kernel
theorem dX12_off_121 : decode cX12_off 121 = .ok (.iaload, 1) := by decide +kernel
theorem dX12_off_122 : decode cX12_off 122 = .ok (.invokevirtual 431, 3) := by decide +kernel
theorem dX12_off_125 : decode cX12_off 125 = .ok (.ifCond .eq 7, 3) := by decide +kernel
theorem dX12_off_128 : decode cX12_off 128 = .ok (.iconst 1, 1) := by decide +kernel
theorem dX12_off_129 : decode cX12_off 129 = .ok (.goto 4, 3) := by decide +kernel
theorem dX12_off_132 : decode cX12_off 132 = .ok (.iconst 0, 1) := by decide +kernel
theorem dX12_off_133 : decode cX12_off 133 = .ok (.invokestatic 396, 3) := by decide +kernel
theorem dX12_off_136 : decode cX12_off 136 = .ok (.iadd, 1) := by decide +kernel
theorem dX12_off_137 : decode cX12_off 137 = .ok (.istore_n 3, 1) := by decide +kernel
theorem dX12_off_138 : decode cX12_off 138 = .ok (.iinc 4 1, 3) := by decide +kernel
theorem dX12_off_141 : decode cX12_off 141 = .ok (.goto (-109), 3) := by decide +kernel
theorem dX12_off_144 : decode cX12_off 144 = .ok (.iload_n 3, 1) := by decide +kernel
theorem dX12_off_145 : decode cX12_off 145 = .ok (.ireturn, 1) := by decide +kernel
theorem dX12_again_0 : decode cX12_again 0 = .ok (.iload_n 1, 1) := by decide +kernel
theorem dX12_again_1 : decode cX12_again 1 = .ok (.iconst 0, 1) := by decide +kernel
theorem dX12_again_2 : decode cX12_again 2 = .ok (.bipush 60, 2) := by decide +kernel
theorem dX12_again_4 : decode cX12_again 4 = .ok (.invokestatic 157, 3) := by decide +kernel
theorem dX12_again_7 : decode cX12_again 7 = .ok (.ifCond .eq 19, 3) := by decide +kernel
theorem dX12_again_10 : decode cX12_again 10 = .ok (.iload_n 2, 1) := by decide +kernel
theorem dX12_again_11 : decode cX12_again 11 = .ok (.iconst 0, 1) := by decide +kernel
theorem dX12_again_12 : decode cX12_again 12 = .ok (.iconst 2, 1) := by decide +kernel
theorem dX12_again_13 : decode cX12_again 13 = .ok (.invokestatic 157, 3) := by decide +kernel
theorem dX12_again_16 : decode cX12_again 16 = .ok (.ifCond .eq 10, 3) := by decide +kernel
theorem dX12_again_19 : decode cX12_again 19 = .ok (.aload_n 0, 1) := by decide +kernel
theorem dX12_again_20 : decode cX12_again 20 = .ok (.getfield 154, 3) := by decide +kernel
theorem dX12_again_23 : decode cX12_again 23 = .ok (.ifCond .ne 5, 3) := by decide +kernel
theorem dX12_again_26 : decode cX12_again 26 = .ok (.iconst (-1), 1) := by decide +kernel
theorem dX12_again_27 : decode cX12_again 27 = .ok (.ireturn, 1) := by decide +kernel
theorem dX12_again_28 : decode cX12_again 28 = .ok (.iconst 0, 1) := by decide +kernel
theorem dX12_again_29 : decode cX12_again 29 = .ok (.istore_n 3, 1) := by decide +kernel
theorem dX12_again_30 : decode cX12_again 30 = .ok (.iconst 0, 1) := by decide +kernel
theorem dX12_again_31 : decode cX12_again 31 = .ok (.istore 4, 2) := by decide +kernel
theorem dX12_again_33 : decode cX12_again 33 = .ok (.iconst 0, 1) := by decide +kernel
theorem dX12_again_34 : decode cX12_again 34 = .ok (.istore 5, 2) := by decide +kernel
theorem dX12_again_36 : decode cX12_again 36 = .ok (.iconst (-1), 1) := by decide +kernel
theorem dX12_again_37 : decode cX12_again 37 = .ok (.istore 6, 2) := by decide +kernel
theorem dX12_again_39 : decode cX12_again 39 = .ok (.iconst 0, 1) := by decide +kernel
theorem dX12_again_40 : decode cX12_again 40 = .ok (.istore 7, 2) := by decide +kernel
theorem dX12_again_42 : decode cX12_again 42 = .ok (.iload 7, 2) := by decide +kernel
theorem dX12_again_44 : decode cX12_again 44 = .ok (.aload_n 0, 1) := by decide +kernel
theorem dX12_again_45 : decode cX12_again 45 = .ok (.getfield 161, 3) := by decide +kernel
theorem dX12_again_48 : decode cX12_again 48 = .ok (.if_icmp .gt 76, 3) := by decide +kernel
theorem dX12_again_51 : decode cX12_again 51 = .ok (.aload_n 0, 1) := by decide +kernel
theorem dX12_again_52 : decode cX12_again 52 = .ok (.iload 7, 2) := by decide +kernel
theorem dX12_again_54 : decode cX12_again 54 = .ok (.invokevirtual 365, 3) := by decide +kernel
theorem dX12_again_57 : decode cX12_again 57 = .ok (.bipush 100, 2) := by decide +kernel
theorem dX12_again_59 : decode cX12_again 59 = .ok (.iload_n 1, 1) := by decide +kernel
theorem dX12_again_60 : decode cX12_again 60 = .ok (.imul, 1) := by decide +kernel
theorem dX12_again_61 : decode cX12_again 61 = .ok (.isub, 1) := by decide +kernel
theorem dX12_again_62 : decode cX12_again 62 = .ok (.invokestatic 337, 3) := by decide +kernel
theorem dX12_again_65 : decode cX12_again 65 = .ok (.bipush 100, 2) := by decide +kernel
theorem dX12_again_67 : decode cX12_again 67 = .ok (.if_icmp .lt 6, 3) := by decide +kernel
theorem dX12_again_70 : decode cX12_again 70 = .ok (.goto 48, 3) := by decide +kernel
theorem dX12_again_73 : decode cX12_again 73 = .ok (.iinc 3 1, 3) := by decide +kernel
theorem dX12_again_76 : decode cX12_again 76 = .ok (.iload 6, 2) := by decide +kernel
theorem dX12_again_78 : decode cX12_again 78 = .ok (.iconst (-1), 1) := by decide +kernel
theorem dX12_again_79 : decode cX12_again 79 = .ok (.if_icmp .eq 12, 3) := by decide +kernel
theorem dX12_again_82 : decode cX12_again 82 = .ok (.iload 6, 2) := by decide +kernel
theorem dX12_again_84 : decode cX12_again 84 = .ok (.iload 7, 2) := by decide +kernel
theorem dX12_again_86 : decode cX12_again 86 = .ok (.iconst 1, 1) := by decide +kernel
theorem dX12_again_87 : decode cX12_again 87 = .ok (.isub, 1) := by decide +kernel
theorem dX12_again_88 : decode cX12_again 88 = .ok (.if_icmp .ge 6, 3) := by decide +kernel
theorem dX12_again_91 : decode cX12_again 91 = .ok (.iinc 4 1, 3) := by decide +kernel
theorem dX12_again_94 : decode cX12_again 94 = .ok (.iload 6, 2) := by decide +kernel
theorem dX12_again_96 : decode cX12_again 96 = .ok (.iconst (-1), 1) := by decide +kernel
theorem dX12_again_97 : decode cX12_again 97 = .ok (.if_icmp .eq 17, 3) := by decide +kernel
theorem dX12_again_100 : decode cX12_again 100 = .ok (.iload 5, 2) := by decide +kernel
theorem dX12_again_102 : decode cX12_again 102 = .ok (.iload 7, 2) := by decide +kernel
theorem dX12_again_104 : decode cX12_again 104 = .ok (.iload 6, 2) := by decide +kernel
theorem dX12_again_106 : decode cX12_again 106 = .ok (.isub, 1) := by decide +kernel
theorem dX12_again_107 : decode cX12_again 107 = .ok (.iconst 1, 1) := by decide +kernel
theorem dX12_again_108 : decode cX12_again 108 = .ok (.isub, 1) := by decide +kernel
theorem dX12_again_109 : decode cX12_again 109 = .ok (.invokestatic 320, 3) := by decide +kernel
theorem dX12_again_112 : decode cX12_again 112 = .ok (.istore 5, 2) := by decide +kernel
theorem dX12_again_114 : decode cX12_again 114 = .ok (.iload 7, 2) := by decide +kernel
theorem dX12_again_116 : decode cX12_again 116 = .ok (.istore 6, 2) := by decide +kernel
theorem dX12_again_118 : decode cX12_again 118 = .ok (.iinc 7 1, 3) := by decide +kernel
theorem dX12_again_121 : decode cX12_again 121 = .ok (.goto (-79), 3) := by decide +kernel
theorem dX12_again_124 : decode cX12_again 124 = .ok (.iload_n 2, 1) := by decide +kernel
theorem dX12_again_125 : decode cX12_again 125 = .ok (.ifCond .ne 7, 3) := by decide +kernel
theorem dX12_again_128 : decode cX12_again 128 = .ok (.iload_n 3, 1) := by decide +kernel
theorem dX12_again_129 : decode cX12_again 129 = .ok (.goto 15, 3) := by decide +kernel
theorem dX12_again_132 : decode cX12_again 132 = .ok (.iload_n 2, 1) := by decide +kernel
theorem dX12_again_133 : decode cX12_again 133 = .ok (.iconst 1, 1) := by decide +kernel
theorem dX12_again_134 : decode cX12_again 134 = .ok (.if_icmp .ne 8, 3) := by decide +kernel
theorem dX12_again_137 : decode cX12_again 137 = .ok (.iload 4, 2) := by decide +kernel
theorem dX12_again_139 : decode cX12_again 139 = .ok (.goto 5, 3) := by decide +kernel
theorem dX12_again_142 : decode cX12_again 142 = .ok (.iload 5, 2) := by decide +kernel
theorem dX12_again_144 : decode cX12_again 144 = .ok (.ireturn, 1) := by decide +kernel
theorem dX12_foretell_0 : decode cX12_foretell 0 = .ok (.iload_n 1, 1) := by decide +kernel
theorem dX12_foretell_1 : decode cX12_foretell 1 = .ok (.iconst 1, 1) := by decide +kernel
theorem dX12_foretell_2 : decode cX12_foretell 2 = .ok (.bipush 50, 2) := by decide +kernel
theorem dX12_foretell_4 : decode cX12_foretell 4 = .ok (.invokestatic 157, 3) := by decide +kernel
theorem dX12_foretell_7 : decode cX12_foretell 7 = .ok (.ifCond .eq 19, 3) := by decide +kernel
theorem dX12_foretell_10 : decode cX12_foretell 10 = .ok (.aload_n 0, 1) := by decide +kernel
theorem dX12_foretell_11 : decode cX12_foretell 11 = .ok (.getfield 434, 3) := by decide +kernel
theorem dX12_foretell_14 : decode cX12_foretell 14 = .ok (.bipush 20, 2) := by decide +kernel
theorem dX12_foretell_16 : decode cX12_foretell 16 = .ok (.if_icmp .eq 10, 3) := by decide +kernel
theorem dX12_foretell_19 : decode cX12_foretell 19 = .ok (.aload_n 0, 1) := by decide +kernel
theorem dX12_foretell_20 : decode cX12_foretell 20 = .ok (.invokevirtual 389, 3) := by decide +kernel
theorem dX12_foretell_23 : decode cX12_foretell 23 = .ok (.ifCond .ne 5, 3) := by decide +kernel
theorem dX12_foretell_26 : decode cX12_foretell 26 = .ok (.iconst (-1), 1) := by decide +kernel
theorem dX12_foretell_27 : decode cX12_foretell 27 = .ok (.ireturn, 1) := by decide +kernel
theorem dX12_foretell_28 : decode cX12_foretell 28 = .ok (.aload_n 0, 1) := by decide +kernel
theorem dX12_foretell_29 : decode cX12_foretell 29 = .ok (.getfield 135, 3) := by decide +kernel
theorem dX12_foretell_32 : decode cX12_foretell 32 = .ok (.aload_n 0, 1) := by decide +kernel
theorem dX12_foretell_33 : decode cX12_foretell 33 = .ok (.getfield 434, 3) := by decide +kernel
theorem dX12_foretell_36 : decode cX12_foretell 36 = .ok (.aload_n 0, 1) := by decide +kernel
theorem dX12_foretell_37 : decode cX12_foretell 37 = .ok (.aload_n 0, 1) := by decide +kernel
theorem dX12_foretell_38 : decode cX12_foretell 38 = .ok (.getfield 161, 3) := by decide +kernel
theorem dX12_foretell_41 : decode cX12_foretell 41 = .ok (.invokevirtual 365, 3) := by decide +kernel
theorem dX12_foretell_44 : decode cX12_foretell 44 = .ok (.iastore, 1) := by decide +kernel
theorem dX12_foretell_45 : decode cX12_foretell 45 = .ok (.aload_n 0, 1) := by decide +kernel
theorem dX12_foretell_46 : decode cX12_foretell 46 = .ok (.getfield 132, 3) := by decide +kernel
theorem dX12_foretell_49 : decode cX12_foretell 49 = .ok (.aload_n 0, 1) := by decide +kernel
theorem dX12_foretell_50 : decode cX12_foretell 50 = .ok (.getfield 434, 3) := by decide +kernel
theorem dX12_foretell_53 : decode cX12_foretell 53 = .ok (.aload_n 0, 1) := by decide +kernel
theorem dX12_foretell_54 : decode cX12_foretell 54 = .ok (.getfield 161, 3) := by decide +kernel
theorem dX12_foretell_57 : decode cX12_foretell 57 = .ok (.iload_n 1, 1) := by decide +kernel
theorem dX12_foretell_58 : decode cX12_foretell 58 = .ok (.iadd, 1) := by decide +kernel
theorem dX12_foretell_59 : decode cX12_foretell 59 = .ok (.iastore, 1) := by decide +kernel
theorem dX12_foretell_60 : decode cX12_foretell 60 = .ok (.aload_n 0, 1) := by decide +kernel
theorem dX12_foretell_61 : decode cX12_foretell 61 = .ok (.invokevirtual 374, 3) := by decide +kernel
theorem dX12_foretell_64 : decode cX12_foretell 64 = .ok (.iconst 0, 1) := by decide +kernel
theorem dX12_foretell_65 : decode cX12_foretell 65 = .ok (.istore_n 2, 1) := by decide +kernel
theorem dX12_foretell_66 : decode cX12_foretell 66 = .ok (.iload_n 2, 1) := by decide +kernel
theorem dX12_foretell_67 : decode cX12_foretell 67 = .ok (.iload_n 1, 1) := by decide +kernel
theorem dX12_foretell_68 : decode cX12_foretell 68 = .ok (.if_icmp .ge 13, 3) := by decide +kernel
theorem dX12_foretell_71 : decode cX12_foretell 71 = .ok (.aload_n 0, 1) := by decide +kernel
theorem dX12_foretell_72 : decode cX12_foretell 72 = .ok (.invokevirtual 359, 3) := by decide +kernel
theorem dX12_foretell_75 : decode cX12_foretell 75 = .ok (.iinc 2 1, 3) := by decide +kernel
theorem dX12_foretell_78 : decode cX12_foretell 78 = .ok (.goto (-12), 3) := by decide +kernel
theorem dX12_foretell_81 : decode cX12_foretell 81 = .ok (.aload_n 0, 1) := by decide +kernel
theorem dX12_foretell_82 : decode cX12_foretell 82 = .ok (.getfield 129, 3) := by decide +kernel
theorem dX12_foretell_85 : decode cX12_foretell 85 = .ok (.aload_n 0, 1) := by decide +kernel
theorem dX12_foretell_86 : decode cX12_foretell 86 = .ok (.getfield 434, 3) := by decide +kernel
theorem dX12_foretell_89 : decode cX12_foretell 89 = .ok (.aload_n 0, 1) := by decide +kernel
theorem dX12_foretell_90 : decode cX12_foretell 90 = .ok (.aload_n 0, 1) := by decide +kernel
theorem dX12_foretell_91 : decode cX12_foretell 91 = .ok (.getfield 161, 3) := by decide +kernel
theorem dX12_foretell_94 : decode cX12_foretell 94 = .ok (.invokevirtual 365, 3) := by decide +kernel
theorem dX12_foretell_97 : decode cX12_foretell 97 = .ok (.iastore, 1) := by decide +kernel
theorem dX12_foretell_98 : decode cX12_foretell 98 = .ok (.aload_n 0, 1) := by decide +kernel
theorem dX12_foretell_99 : decode cX12_foretell 99 = .ok (.invokevirtual 386, 3) := by decide +kernel
theorem dX12_foretell_102 : decode cX12_foretell 102 = .ok (.aload_n 0, 1) := by decide +kernel
theorem dX12_foretell_103 : decode cX12_foretell 103 = .ok (.dup, 1) := by decide +kernel
theorem dX12_foretell_104 : decode cX12_foretell 104 = .ok (.getfield 434, 3) := by decide +kernel
theorem dX12_foretell_107 : decode cX12_foretell 107 = .ok (.iconst 1, 1) := by decide +kernel
theorem dX12_foretell_108 : decode cX12_foretell 108 = .ok (.iadd, 1) := by decide +kernel
theorem dX12_foretell_109 : decode cX12_foretell 109 = .ok (.putfield 434, 3) := by decide +kernel
theorem dX12_foretell_112 : decode cX12_foretell 112 = .ok (.aload_n 0, 1) := by decide +kernel
theorem dX12_foretell_113 : decode cX12_foretell 113 = .ok (.getfield 434, 3) := by decide +kernel
theorem dX12_foretell_116 : decode cX12_foretell 116 = .ok (.iconst 1, 1) := by decide +kernel
theorem dX12_foretell_117 : decode cX12_foretell 117 = .ok (.isub, 1) := by decide +kernel
theorem dX12_foretell_118 : decode cX12_foretell 118 = .ok (.ireturn, 1) := by decide +kernel
theorem dX12_held_0 : decode cX12_held 0 = .ok (.iload_n 1, 1) := by decide +kernel
theorem dX12_held_1 : decode cX12_held 1 = .ok (.iconst 0, 1) := by decide +kernel
theorem dX12_held_2 : decode cX12_held 2 = .ok (.aload_n 0, 1) := by decide +kernel
theorem dX12_held_3 : decode cX12_held 3 = .ok (.getfield 434, 3) := by decide +kernel
theorem dX12_held_6 : decode cX12_held 6 = .ok (.iconst 1, 1) := by decide +kernel
theorem dX12_held_7 : decode cX12_held 7 = .ok (.isub, 1) := by decide +kernel
theorem dX12_held_8 : decode cX12_held 8 = .ok (.invokestatic 157, 3) := by decide +kernel
theorem dX12_held_11 : decode cX12_held 11 = .ok (.ifCond .eq 12, 3) := by decide +kernel
theorem dX12_held_14 : decode cX12_held 14 = .ok (.iload_n 2, 1) := by decide +kernel
theorem dX12_held_15 : decode cX12_held 15 = .ok (.iconst 0, 1) := by decide +kernel
theorem dX12_held_16 : decode cX12_held 16 = .ok (.iconst 3, 1) := by decide +kernel
theorem dX12_held_17 : decode cX12_held 17 = .ok (.invokestatic 157, 3) := by decide +kernel
theorem dX12_held_20 : decode cX12_held 20 = .ok (.ifCond .ne 6, 3) := by decide +kernel
theorem dX12_held_23 : decode cX12_held 23 = .ok (.bipush (-2), 2) := by decide +kernel
theorem dX12_held_25 : decode cX12_held 25 = .ok (.ireturn, 1) := by decide +kernel
theorem dX12_held_26 : decode cX12_held 26 = .ok (.iload_n 2, 1) := by decide +kernel
theorem dX12_held_27 : decode cX12_held 27 = .ok (.iconst 2, 1) := by decide +kernel
theorem dX12_held_28 : decode cX12_held 28 = .ok (.if_icmp .ge 23, 3) := by decide +kernel
theorem dX12_held_31 : decode cX12_held 31 = .ok (.iload_n 2, 1) := by decide +kernel
theorem dX12_held_32 : decode cX12_held 32 = .ok (.ifCond .ne 12, 3) := by decide +kernel
theorem dX12_held_35 : decode cX12_held 35 = .ok (.aload_n 0, 1) := by decide +kernel
theorem dX12_held_36 : decode cX12_held 36 = .ok (.getfield 129, 3) := by decide +kernel
theorem dX12_held_39 : decode cX12_held 39 = .ok (.iload_n 1, 1) := by decide +kernel
theorem dX12_held_40 : decode cX12_held 40 = .ok (.iaload, 1) := by decide +kernel
theorem dX12_held_41 : decode cX12_held 41 = .ok (.goto 9, 3) := by decide +kernel
theorem dX12_held_44 : decode cX12_held 44 = .ok (.aload_n 0, 1) := by decide +kernel
theorem dX12_held_45 : decode cX12_held 45 = .ok (.getfield 132, 3) := by decide +kernel
theorem dX12_held_48 : decode cX12_held 48 = .ok (.iload_n 1, 1) := by decide +kernel
theorem dX12_held_49 : decode cX12_held 49 = .ok (.iaload, 1) := by decide +kernel
theorem dX12_held_50 : decode cX12_held 50 = .ok (.ireturn, 1) := by decide +kernel
theorem dX12_held_51 : decode cX12_held 51 = .ok (.aload_n 0, 1) := by decide +kernel
theorem dX12_held_52 : decode cX12_held 52 = .ok (.getfield 132, 3) := by decide +kernel
theorem dX12_held_55 : decode cX12_held 55 = .ok (.iload_n 1, 1) := by decide +kernel
theorem dX12_held_56 : decode cX12_held 56 = .ok (.iaload, 1) := by decide +kernel
theorem dX12_held_57 : decode cX12_held 57 = .ok (.aload_n 0, 1) := by decide +kernel
theorem dX12_held_58 : decode cX12_held 58 = .ok (.getfield 161, 3) := by decide +kernel
theorem dX12_held_61 : decode cX12_held 61 = .ok (.if_icmp .le 5, 3) := by decide +kernel
theorem dX12_held_64 : decode cX12_held 64 = .ok (.iconst (-1), 1) := by decide +kernel
theorem dX12_held_65 : decode cX12_held 65 = .ok (.ireturn, 1) := by decide +kernel
theorem dX12_held_66 : decode cX12_held 66 = .ok (.aload_n 0, 1) := by decide +kernel
theorem dX12_held_67 : decode cX12_held 67 = .ok (.aload_n 0, 1) := by decide +kernel
theorem dX12_held_68 : decode cX12_held 68 = .ok (.getfield 132, 3) := by decide +kernel
theorem dX12_held_71 : decode cX12_held 71 = .ok (.iload_n 1, 1) := by decide +kernel
theorem dX12_held_72 : decode cX12_held 72 = .ok (.iaload, 1) := by decide +kernel
theorem dX12_held_73 : decode cX12_held 73 = .ok (.invokevirtual 365, 3) := by decide +kernel
theorem dX12_held_76 : decode cX12_held 76 = .ok (.iload_n 2, 1) := by decide +kernel
theorem dX12_held_77 : decode cX12_held 77 = .ok (.iconst 2, 1) := by decide +kernel
theorem dX12_held_78 : decode cX12_held 78 = .ok (.if_icmp .ne 12, 3) := by decide +kernel
theorem dX12_held_81 : decode cX12_held 81 = .ok (.aload_n 0, 1) := by decide +kernel
theorem dX12_held_82 : decode cX12_held 82 = .ok (.getfield 129, 3) := by decide +kernel
theorem dX12_held_85 : decode cX12_held 85 = .ok (.iload_n 1, 1) := by decide +kernel
theorem dX12_held_86 : decode cX12_held 86 = .ok (.iaload, 1) := by decide +kernel
theorem dX12_held_87 : decode cX12_held 87 = .ok (.goto 9, 3) := by decide +kernel
theorem dX12_held_90 : decode cX12_held 90 = .ok (.aload_n 0, 1) := by decide +kernel
theorem dX12_held_91 : decode cX12_held 91 = .ok (.getfield 135, 3) := by decide +kernel
theorem dX12_held_94 : decode cX12_held 94 = .ok (.iload_n 1, 1) := by decide +kernel
theorem dX12_held_95 : decode cX12_held 95 = .ok (.iaload, 1) := by decide +kernel
theorem dX12_held_96 : decode cX12_held 96 = .ok (.isub, 1) := by decide +kernel
theorem dX12_held_97 : decode cX12_held 97 = .ok (.invokestatic 337, 3) := by decide +kernel
theorem dX12_held_100 : decode cX12_held 100 = .ok (.ireturn, 1) := by decide +kernel
theorem dX12_behind_0 : decode cX12_behind 0 = .ok (.iload_n 1, 1) := by decide +kernel
theorem dX12_behind_1 : decode cX12_behind 1 = .ok (.iconst 0, 1) := by decide +kernel
theorem dX12_behind_2 : decode cX12_behind 2 = .ok (.bipush 99, 2) := by decide +kernel
theorem dX12_behind_4 : decode cX12_behind 4 = .ok (.invokestatic 157, 3) := by decide +kernel
theorem dX12_behind_7 : decode cX12_behind 7 = .ok (.ifCond .eq 19, 3) := by decide +kernel
theorem dX12_behind_10 : decode cX12_behind 10 = .ok (.iload_n 2, 1) := by decide +kernel
theorem dX12_behind_11 : decode cX12_behind 11 = .ok (.iconst 0, 1) := by decide +kernel
theorem dX12_behind_12 : decode cX12_behind 12 = .ok (.iconst 3, 1) := by decide +kernel
theorem dX12_behind_13 : decode cX12_behind 13 = .ok (.invokestatic 157, 3) := by decide +kernel
theorem dX12_behind_16 : decode cX12_behind 16 = .ok (.ifCond .eq 10, 3) := by decide +kernel
theorem dX12_behind_19 : decode cX12_behind 19 = .ok (.aload_n 0, 1) := by decide +kernel
theorem dX12_behind_20 : decode cX12_behind 20 = .ok (.getfield 154, 3) := by decide +kernel
theorem dX12_behind_23 : decode cX12_behind 23 = .ok (.ifCond .ne 5, 3) := by decide +kernel
theorem dX12_behind_26 : decode cX12_behind 26 = .ok (.iconst (-1), 1) := by decide +kernel
theorem dX12_behind_27 : decode cX12_behind 27 = .ok (.ireturn, 1) := by decide +kernel
theorem dX12_behind_28 : decode cX12_behind 28 = .ok (.iconst 0, 1) := by decide +kernel
theorem dX12_behind_29 : decode cX12_behind 29 = .ok (.istore_n 3, 1) := by decide +kernel
theorem dX12_behind_30 : decode cX12_behind 30 = .ok (.iconst 0, 1) := by decide +kernel
theorem dX12_behind_31 : decode cX12_behind 31 = .ok (.istore 4, 2) := by decide +kernel
theorem dX12_behind_33 : decode cX12_behind 33 = .ok (.iload 4, 2) := by decide +kernel
theorem dX12_behind_35 : decode cX12_behind 35 = .ok (.aload_n 0, 1) := by decide +kernel
theorem dX12_behind_36 : decode cX12_behind 36 = .ok (.getfield 154, 3) := by decide +kernel
theorem dX12_behind_39 : decode cX12_behind 39 = .ok (.if_icmp .ge 79, 3) := by decide +kernel
theorem dX12_behind_42 : decode cX12_behind 42 = .ok (.aload_n 0, 1) := by decide +kernel
theorem dX12_behind_43 : decode cX12_behind 43 = .ok (.getfield 17, 3) := by decide +kernel
theorem dX12_behind_46 : decode cX12_behind 46 = .ok (.iload 4, 2) := by decide +kernel
theorem dX12_behind_48 : decode cX12_behind 48 = .ok (.iaload, 1) := by decide +kernel
theorem dX12_behind_49 : decode cX12_behind 49 = .ok (.iload_n 1, 1) := by decide +kernel
theorem dX12_behind_50 : decode cX12_behind 50 = .ok (.if_icmp .gt 7, 3) := by decide +kernel
theorem dX12_behind_53 : decode cX12_behind 53 = .ok (.iconst 1, 1) := by decide +kernel
theorem dX12_behind_54 : decode cX12_behind 54 = .ok (.goto 4, 3) := by decide +kernel
theorem dX12_behind_57 : decode cX12_behind 57 = .ok (.iconst 0, 1) := by decide +kernel
theorem dX12_behind_58 : decode cX12_behind 58 = .ok (.iload_n 2, 1) := by decide +kernel
theorem dX12_behind_59 : decode cX12_behind 59 = .ok (.iconst 2, 1) := by decide +kernel
theorem dX12_behind_60 : decode cX12_behind 60 = .ok (.if_icmp .ge 7, 3) := by decide +kernel
theorem dX12_behind_63 : decode cX12_behind 63 = .ok (.iconst 1, 1) := by decide +kernel
theorem dX12_behind_64 : decode cX12_behind 64 = .ok (.goto 4, 3) := by decide +kernel
theorem dX12_behind_67 : decode cX12_behind 67 = .ok (.iconst 0, 1) := by decide +kernel
theorem dX12_behind_68 : decode cX12_behind 68 = .ok (.if_icmp .eq 6, 3) := by decide +kernel
theorem dX12_behind_71 : decode cX12_behind 71 = .ok (.goto 41, 3) := by decide +kernel
theorem dX12_behind_74 : decode cX12_behind 74 = .ok (.iload_n 3, 1) := by decide +kernel
theorem dX12_behind_75 : decode cX12_behind 75 = .ok (.iload_n 2, 1) := by decide +kernel
theorem dX12_behind_76 : decode cX12_behind 76 = .ok (.iconst 2, 1) := by decide +kernel
theorem dX12_behind_77 : decode cX12_behind 77 = .ok (.irem, 1) := by decide +kernel
theorem dX12_behind_78 : decode cX12_behind 78 = .ok (.ifCond .ne 31, 3) := by decide +kernel
theorem dX12_behind_81 : decode cX12_behind 81 = .ok (.bipush 100, 2) := by decide +kernel
theorem dX12_behind_83 : decode cX12_behind 83 = .ok (.aload_n 0, 1) := by decide +kernel
theorem dX12_behind_84 : decode cX12_behind 84 = .ok (.iload 4, 2) := by decide +kernel
theorem dX12_behind_86 : decode cX12_behind 86 = .ok (.aload_n 0, 1) := by decide +kernel
theorem dX12_behind_87 : decode cX12_behind 87 = .ok (.getfield 161, 3) := by decide +kernel
theorem dX12_behind_90 : decode cX12_behind 90 = .ok (.invokevirtual 302, 3) := by decide +kernel
theorem dX12_behind_93 : decode cX12_behind 93 = .ok (.imul, 1) := by decide +kernel
theorem dX12_behind_94 : decode cX12_behind 94 = .ok (.aload_n 0, 1) := by decide +kernel
theorem dX12_behind_95 : decode cX12_behind 95 = .ok (.aload_n 0, 1) := by decide +kernel
theorem dX12_behind_96 : decode cX12_behind 96 = .ok (.getfield 161, 3) := by decide +kernel
theorem dX12_behind_99 : decode cX12_behind 99 = .ok (.invokevirtual 365, 3) := by decide +kernel
theorem dX12_behind_102 : decode cX12_behind 102 = .ok (.isub, 1) := by decide +kernel
theorem dX12_behind_103 : decode cX12_behind 103 = .ok (.invokestatic 337, 3) := by decide +kernel
theorem dX12_behind_106 : decode cX12_behind 106 = .ok (.goto 4, 3) := by decide +kernel
theorem dX12_behind_109 : decode cX12_behind 109 = .ok (.iconst 1, 1) := by decide +kernel
theorem dX12_behind_110 : decode cX12_behind 110 = .ok (.iadd, 1) := by decide +kernel
theorem dX12_behind_111 : decode cX12_behind 111 = .ok (.istore_n 3, 1) := by decide +kernel
theorem dX12_behind_112 : decode cX12_behind 112 = .ok (.iinc 4 1, 3) := by decide +kernel
theorem dX12_behind_115 : decode cX12_behind 115 = .ok (.goto (-82), 3) := by decide +kernel
theorem dX12_behind_118 : decode cX12_behind 118 = .ok (.iload_n 3, 1) := by decide +kernel
theorem dX12_behind_119 : decode cX12_behind 119 = .ok (.ireturn, 1) := by decide +kernel
theorem dX12_between_0 : decode cX12_between 0 = .ok (.iconst 0, 1) := by decide +kernel
theorem dX12_between_1 : decode cX12_between 1 = .ok (.istore_n 3, 1) := by decide +kernel
theorem dX12_between_2 : decode cX12_between 2 = .ok (.iconst 0, 1) := by decide +kernel
theorem dX12_between_3 : decode cX12_between 3 = .ok (.istore 4, 2) := by decide +kernel
theorem dX12_between_5 : decode cX12_between 5 = .ok (.iload 4, 2) := by decide +kernel
theorem dX12_between_7 : decode cX12_between 7 = .ok (.aload_n 0, 1) := by decide +kernel
theorem dX12_between_8 : decode cX12_between 8 = .ok (.getfield 154, 3) := by decide +kernel
theorem dX12_between_11 : decode cX12_between 11 = .ok (.if_icmp .ge 81, 3) := by decide +kernel
theorem dX12_between_14 : decode cX12_between 14 = .ok (.aload_n 0, 1) := by decide +kernel
theorem dX12_between_15 : decode cX12_between 15 = .ok (.getfield 138, 3) := by decide +kernel
theorem dX12_between_18 : decode cX12_between 18 = .ok (.iload 4, 2) := by decide +kernel
theorem dX12_between_20 : decode cX12_between 20 = .ok (.iaload, 1) := by decide +kernel
theorem dX12_between_21 : decode cX12_between 21 = .ok (.istore 5, 2) := by decide +kernel
theorem dX12_between_23 : decode cX12_between 23 = .ok (.iload_n 1, 1) := by decide +kernel
theorem dX12_between_24 : decode cX12_between 24 = .ok (.iconst (-1), 1) := by decide +kernel
theorem dX12_between_25 : decode cX12_between 25 = .ok (.if_icmp .eq 9, 3) := by decide +kernel
theorem dX12_between_28 : decode cX12_between 28 = .ok (.iload 5, 2) := by decide +kernel
theorem dX12_between_30 : decode cX12_between 30 = .ok (.iload_n 1, 1) := by decide +kernel
theorem dX12_between_31 : decode cX12_between 31 = .ok (.if_icmp .lt 55, 3) := by decide +kernel
theorem dX12_between_34 : decode cX12_between 34 = .ok (.iload_n 2, 1) := by decide +kernel
theorem dX12_between_35 : decode cX12_between 35 = .ok (.iconst (-1), 1) := by decide +kernel
theorem dX12_between_36 : decode cX12_between 36 = .ok (.if_icmp .eq 12, 3) := by decide +kernel
theorem dX12_between_39 : decode cX12_between 39 = .ok (.iload 5, 2) := by decide +kernel
theorem dX12_between_41 : decode cX12_between 41 = .ok (.iload_n 2, 1) := by decide +kernel
theorem dX12_between_42 : decode cX12_between 42 = .ok (.if_icmp .lt 6, 3) := by decide +kernel
theorem dX12_between_45 : decode cX12_between 45 = .ok (.goto 41, 3) := by decide +kernel
theorem dX12_between_48 : decode cX12_between 48 = .ok (.iload_n 3, 1) := by decide +kernel
theorem dX12_between_49 : decode cX12_between 49 = .ok (.iload_n 1, 1) := by decide +kernel
theorem dX12_between_50 : decode cX12_between 50 = .ok (.iconst (-1), 1) := by decide +kernel
theorem dX12_between_51 : decode cX12_between 51 = .ok (.if_icmp .ne 10, 3) := by decide +kernel
theorem dX12_between_54 : decode cX12_between 54 = .ok (.iload_n 2, 1) := by decide +kernel
theorem dX12_between_55 : decode cX12_between 55 = .ok (.iload 5, 2) := by decide +kernel
theorem dX12_between_57 : decode cX12_between 57 = .ok (.isub, 1) := by decide +kernel
theorem dX12_between_58 : decode cX12_between 58 = .ok (.goto 26, 3) := by decide +kernel
theorem dX12_between_61 : decode cX12_between 61 = .ok (.iload_n 2, 1) := by decide +kernel
theorem dX12_between_62 : decode cX12_between 62 = .ok (.iconst (-1), 1) := by decide +kernel
theorem dX12_between_63 : decode cX12_between 63 = .ok (.if_icmp .ne 10, 3) := by decide +kernel
theorem dX12_between_66 : decode cX12_between 66 = .ok (.iload 5, 2) := by decide +kernel
theorem dX12_between_68 : decode cX12_between 68 = .ok (.iload_n 1, 1) := by decide +kernel
theorem dX12_between_69 : decode cX12_between 69 = .ok (.isub, 1) := by decide +kernel
theorem dX12_between_70 : decode cX12_between 70 = .ok (.goto 14, 3) := by decide +kernel
theorem dX12_between_73 : decode cX12_between 73 = .ok (.iload 5, 2) := by decide +kernel
theorem dX12_between_75 : decode cX12_between 75 = .ok (.iload_n 1, 1) := by decide +kernel
theorem dX12_between_76 : decode cX12_between 76 = .ok (.isub, 1) := by decide +kernel
theorem dX12_between_77 : decode cX12_between 77 = .ok (.iload_n 2, 1) := by decide +kernel
theorem dX12_between_78 : decode cX12_between 78 = .ok (.iload 5, 2) := by decide +kernel
theorem dX12_between_80 : decode cX12_between 80 = .ok (.isub, 1) := by decide +kernel
theorem dX12_between_81 : decode cX12_between 81 = .ok (.invokestatic 334, 3) := by decide +kernel
theorem dX12_between_84 : decode cX12_between 84 = .ok (.iadd, 1) := by decide +kernel
theorem dX12_between_85 : decode cX12_between 85 = .ok (.istore_n 3, 1) := by decide +kernel
theorem dX12_between_86 : decode cX12_between 86 = .ok (.iinc 4 1, 3) := by decide +kernel
theorem dX12_between_89 : decode cX12_between 89 = .ok (.goto (-84), 3) := by decide +kernel
theorem dX12_between_92 : decode cX12_between 92 = .ok (.iload_n 3, 1) := by decide +kernel
theorem dX12_between_93 : decode cX12_between 93 = .ok (.ireturn, 1) := by decide +kernel
theorem dX12_shops_0 : decode cX12_shops 0 = .ok (.iconst 0, 1) := by decide +kernel
theorem dX12_shops_1 : decode cX12_shops 1 = .ok (.istore_n 2, 1) := by decide +kernel
theorem dX12_shops_2 : decode cX12_shops 2 = .ok (.iload_n 2, 1) := by decide +kernel
theorem dX12_shops_3 : decode cX12_shops 3 = .ok (.aload_n 0, 1) := by decide +kernel
theorem dX12_shops_4 : decode cX12_shops 4 = .ok (.getfield 154, 3) := by decide +kernel
theorem dX12_shops_7 : decode cX12_shops 7 = .ok (.if_icmp .ge 20, 3) := by decide +kernel
theorem dX12_shops_10 : decode cX12_shops 10 = .ok (.aload_n 0, 1) := by decide +kernel
theorem dX12_shops_11 : decode cX12_shops 11 = .ok (.getfield 138, 3) := by decide +kernel
theorem dX12_shops_14 : decode cX12_shops 14 = .ok (.iload_n 2, 1) := by decide +kernel
theorem dX12_shops_15 : decode cX12_shops 15 = .ok (.aload_n 0, 1) := by decide +kernel
theorem dX12_shops_16 : decode cX12_shops 16 = .ok (.iload_n 2, 1) := by decide +kernel
theorem dX12_shops_17 : decode cX12_shops 17 = .ok (.invokevirtual 368, 3) := by decide +kernel
theorem dX12_shops_20 : decode cX12_shops 20 = .ok (.iastore, 1) := by decide +kernel
theorem dX12_shops_21 : decode cX12_shops 21 = .ok (.iinc 2 1, 3) := by decide +kernel
theorem dX12_shops_24 : decode cX12_shops 24 = .ok (.goto (-22), 3) := by decide +kernel
theorem dX12_shops_27 : decode cX12_shops 27 = .ok (.iconst 0, 1) := by decide +kernel
theorem dX12_shops_28 : decode cX12_shops 28 = .ok (.istore_n 2, 1) := by decide +kernel
theorem dX12_shops_29 : decode cX12_shops 29 = .ok (.iload_n 2, 1) := by decide +kernel
theorem dX12_shops_30 : decode cX12_shops 30 = .ok (.iload_n 1, 1) := by decide +kernel
theorem dX12_shops_31 : decode cX12_shops 31 = .ok (.if_icmp .ge 105, 3) := by decide +kernel
theorem dX12_shops_34 : decode cX12_shops 34 = .ok (.iconst 0, 1) := by decide +kernel
theorem dX12_shops_35 : decode cX12_shops 35 = .ok (.istore_n 3, 1) := by decide +kernel
theorem dX12_shops_36 : decode cX12_shops 36 = .ok (.iload_n 3, 1) := by decide +kernel
theorem dX12_shops_37 : decode cX12_shops 37 = .ok (.bipush 61, 2) := by decide +kernel
theorem dX12_shops_39 : decode cX12_shops 39 = .ok (.if_icmp .ge 91, 3) := by decide +kernel
theorem dX12_shops_42 : decode cX12_shops 42 = .ok (.iload_n 2, 1) := by decide +kernel
theorem dX12_shops_43 : decode cX12_shops 43 = .ok (.ifCond .ne 12, 3) := by decide +kernel
theorem dX12_shops_46 : decode cX12_shops 46 = .ok (.aload_n 0, 1) := by decide +kernel
theorem dX12_shops_47 : decode cX12_shops 47 = .ok (.iload_n 3, 1) := by decide +kernel
theorem dX12_shops_48 : decode cX12_shops 48 = .ok (.iconst (-1), 1) := by decide +kernel
theorem dX12_shops_49 : decode cX12_shops 49 = .ok (.invokevirtual 437, 3) := by decide +kernel
theorem dX12_shops_52 : decode cX12_shops 52 = .ok (.goto 6, 3) := by decide +kernel
theorem dX12_shops_55 : decode cX12_shops 55 = .ok (.ldc_w 440, 3) := by decide +kernel
theorem dX12_shops_58 : decode cX12_shops 58 = .ok (.istore 4, 2) := by decide +kernel
theorem dX12_shops_60 : decode cX12_shops 60 = .ok (.iload_n 3, 1) := by decide +kernel
theorem dX12_shops_61 : decode cX12_shops 61 = .ok (.iconst 1, 1) := by decide +kernel
theorem dX12_shops_62 : decode cX12_shops 62 = .ok (.iadd, 1) := by decide +kernel
theorem dX12_shops_63 : decode cX12_shops 63 = .ok (.istore 5, 2) := by decide +kernel
theorem dX12_shops_65 : decode cX12_shops 65 = .ok (.iload 5, 2) := by decide +kernel
theorem dX12_shops_67 : decode cX12_shops 67 = .ok (.bipush 61, 2) := by decide +kernel
theorem dX12_shops_69 : decode cX12_shops 69 = .ok (.if_icmp .ge 42, 3) := by decide +kernel
theorem dX12_shops_72 : decode cX12_shops 72 = .ok (.iload_n 2, 1) := by decide +kernel
theorem dX12_shops_73 : decode cX12_shops 73 = .ok (.ifCond .le 38, 3) := by decide +kernel
theorem dX12_shops_76 : decode cX12_shops 76 = .ok (.iload 4, 2) := by decide +kernel
theorem dX12_shops_78 : decode cX12_shops 78 = .ok (.aload_n 0, 1) := by decide +kernel
theorem dX12_shops_79 : decode cX12_shops 79 = .ok (.iload_n 3, 1) := by decide +kernel
theorem dX12_shops_80 : decode cX12_shops 80 = .ok (.iload 5, 2) := by decide +kernel
theorem dX12_shops_82 : decode cX12_shops 82 = .ok (.invokevirtual 437, 3) := by decide +kernel
theorem dX12_shops_85 : decode cX12_shops 85 = .ok (.aload_n 0, 1) := by decide +kernel
theorem dX12_shops_86 : decode cX12_shops 86 = .ok (.getfield 141, 3) := by decide +kernel
theorem dX12_shops_89 : decode cX12_shops 89 = .ok (.bipush 61, 2) := by decide +kernel
theorem dX12_shops_91 : decode cX12_shops 91 = .ok (.iload_n 2, 1) := by decide +kernel
theorem dX12_shops_92 : decode cX12_shops 92 = .ok (.iconst 1, 1) := by decide +kernel
theorem dX12_shops_93 : decode cX12_shops 93 = .ok (.isub, 1) := by decide +kernel
theorem dX12_shops_94 : decode cX12_shops 94 = .ok (.imul, 1) := by decide +kernel
theorem dX12_shops_95 : decode cX12_shops 95 = .ok (.iload 5, 2) := by decide +kernel
theorem dX12_shops_97 : decode cX12_shops 97 = .ok (.iadd, 1) := by decide +kernel
theorem dX12_shops_98 : decode cX12_shops 98 = .ok (.iaload, 1) := by decide +kernel
theorem dX12_shops_99 : decode cX12_shops 99 = .ok (.iadd, 1) := by decide +kernel
theorem dX12_shops_100 : decode cX12_shops 100 = .ok (.invokestatic 334, 3) := by decide +kernel
theorem dX12_shops_103 : decode cX12_shops 103 = .ok (.istore 4, 2) := by decide +kernel
theorem dX12_shops_105 : decode cX12_shops 105 = .ok (.iinc 5 1, 3) := by decide +kernel
theorem dX12_shops_108 : decode cX12_shops 108 = .ok (.goto (-43), 3) := by decide +kernel
theorem dX12_shops_111 : decode cX12_shops 111 = .ok (.aload_n 0, 1) := by decide +kernel
theorem dX12_shops_112 : decode cX12_shops 112 = .ok (.getfield 141, 3) := by decide +kernel
theorem dX12_shops_115 : decode cX12_shops 115 = .ok (.bipush 61, 2) := by decide +kernel
theorem dX12_shops_117 : decode cX12_shops 117 = .ok (.iload_n 2, 1) := by decide +kernel
theorem dX12_shops_118 : decode cX12_shops 118 = .ok (.imul, 1) := by decide +kernel
theorem dX12_shops_119 : decode cX12_shops 119 = .ok (.iload_n 3, 1) := by decide +kernel
theorem dX12_shops_120 : decode cX12_shops 120 = .ok (.iadd, 1) := by decide +kernel
theorem dX12_shops_121 : decode cX12_shops 121 = .ok (.iload 4, 2) := by decide +kernel
theorem dX12_shops_123 : decode cX12_shops 123 = .ok (.iastore, 1) := by decide +kernel
theorem dX12_shops_124 : decode cX12_shops 124 = .ok (.iinc 3 1, 3) := by decide +kernel
theorem dX12_shops_127 : decode cX12_shops 127 = .ok (.goto (-91), 3) := by decide +kernel
theorem dX12_shops_130 : decode cX12_shops 130 = .ok (.iinc 2 1, 3) := by decide +kernel
theorem dX12_shops_133 : decode cX12_shops 133 = .ok (.goto (-104), 3) := by decide +kernel
theorem dX12_shops_136 : decode cX12_shops 136 = .ok (.return_, 1) := by decide +kernel
theorem dX12_shop_0 : decode cX12_shop 0 = .ok (.iload_n 1, 1) := by decide +kernel
theorem dX12_shop_1 : decode cX12_shop 1 = .ok (.iconst 1, 1) := by decide +kernel
theorem dX12_shop_2 : decode cX12_shop 2 = .ok (.bipush 6, 2) := by decide +kernel
theorem dX12_shop_4 : decode cX12_shop 4 = .ok (.invokestatic 157, 3) := by decide +kernel
theorem dX12_shop_7 : decode cX12_shop 7 = .ok (.ifCond .eq 27, 3) := by decide +kernel
theorem dX12_shop_10 : decode cX12_shop 10 = .ok (.iload_n 2, 1) := by decide +kernel
theorem dX12_shop_11 : decode cX12_shop 11 = .ok (.ifCond .eq 16, 3) := by decide +kernel
theorem dX12_shop_14 : decode cX12_shop 14 = .ok (.iload_n 2, 1) := by decide +kernel
theorem dX12_shop_15 : decode cX12_shop 15 = .ok (.bipush 10, 2) := by decide +kernel
theorem dX12_shop_17 : decode cX12_shop 17 = .ok (.bipush 9, 2) := by decide +kernel
theorem dX12_shop_19 : decode cX12_shop 19 = .ok (.iload_n 1, 1) := by decide +kernel
theorem dX12_shop_20 : decode cX12_shop 20 = .ok (.iadd, 1) := by decide +kernel
theorem dX12_shop_21 : decode cX12_shop 21 = .ok (.invokestatic 157, 3) := by decide +kernel
theorem dX12_shop_24 : decode cX12_shop 24 = .ok (.ifCond .eq 10, 3) := by decide +kernel
theorem dX12_shop_27 : decode cX12_shop 27 = .ok (.aload_n 0, 1) := by decide +kernel
theorem dX12_shop_28 : decode cX12_shop 28 = .ok (.invokevirtual 389, 3) := by decide +kernel
theorem dX12_shop_31 : decode cX12_shop 31 = .ok (.ifCond .ne 5, 3) := by decide +kernel
theorem dX12_shop_34 : decode cX12_shop 34 = .ok (.iconst (-1), 1) := by decide +kernel
theorem dX12_shop_35 : decode cX12_shop 35 = .ok (.ireturn, 1) := by decide +kernel
theorem dX12_shop_36 : decode cX12_shop 36 = .ok (.aload_n 0, 1) := by decide +kernel
theorem dX12_shop_37 : decode cX12_shop 37 = .ok (.iload_n 1, 1) := by decide +kernel
theorem dX12_shop_38 : decode cX12_shop 38 = .ok (.invokevirtual 441, 3) := by decide +kernel
theorem dX12_shop_41 : decode cX12_shop 41 = .ok (.iconst 0, 1) := by decide +kernel
theorem dX12_shop_42 : decode cX12_shop 42 = .ok (.istore_n 3, 1) := by decide +kernel
theorem dX12_shop_43 : decode cX12_shop 43 = .ok (.ldc_w 440, 3) := by decide +kernel
theorem dX12_shop_46 : decode cX12_shop 46 = .ok (.istore 4, 2) := by decide +kernel
theorem dX12_shop_48 : decode cX12_shop 48 = .ok (.bipush 60, 2) := by decide +kernel
theorem dX12_shop_50 : decode cX12_shop 50 = .ok (.istore 5, 2) := by decide +kernel
theorem dX12_shop_52 : decode cX12_shop 52 = .ok (.iload 5, 2) := by decide +kernel
theorem dX12_shop_54 : decode cX12_shop 54 = .ok (.ifCond .lt 50, 3) := by decide +kernel
theorem dX12_shop_57 : decode cX12_shop 57 = .ok (.aload_n 0, 1) := by decide +kernel
theorem dX12_shop_58 : decode cX12_shop 58 = .ok (.iconst (-1), 1) := by decide +kernel
theorem dX12_shop_59 : decode cX12_shop 59 = .ok (.iload 5, 2) := by decide +kernel
theorem dX12_shop_61 : decode cX12_shop 61 = .ok (.invokevirtual 437, 3) := by decide +kernel
theorem dX12_shop_64 : decode cX12_shop 64 = .ok (.aload_n 0, 1) := by decide +kernel
theorem dX12_shop_65 : decode cX12_shop 65 = .ok (.getfield 141, 3) := by decide +kernel
theorem dX12_shop_68 : decode cX12_shop 68 = .ok (.bipush 61, 2) := by decide +kernel
theorem dX12_shop_70 : decode cX12_shop 70 = .ok (.iload_n 1, 1) := by decide +kernel
theorem dX12_shop_71 : decode cX12_shop 71 = .ok (.iconst 1, 1) := by decide +kernel
theorem dX12_shop_72 : decode cX12_shop 72 = .ok (.isub, 1) := by decide +kernel
theorem dX12_shop_73 : decode cX12_shop 73 = .ok (.imul, 1) := by decide +kernel
theorem dX12_shop_74 : decode cX12_shop 74 = .ok (.iload 5, 2) := by decide +kernel
theorem dX12_shop_76 : decode cX12_shop 76 = .ok (.iadd, 1) := by decide +kernel
theorem dX12_shop_77 : decode cX12_shop 77 = .ok (.iaload, 1) := by decide +kernel
theorem dX12_shop_78 : decode cX12_shop 78 = .ok (.iadd, 1) := by decide +kernel
theorem dX12_shop_79 : decode cX12_shop 79 = .ok (.istore 6, 2) := by decide +kernel
theorem dX12_shop_81 : decode cX12_shop 81 = .ok (.iload 6, 2) := by decide +kernel
theorem dX12_shop_83 : decode cX12_shop 83 = .ok (.iload 4, 2) := by decide +kernel
theorem dX12_shop_85 : decode cX12_shop 85 = .ok (.if_icmp .le 6, 3) := by decide +kernel
theorem dX12_shop_88 : decode cX12_shop 88 = .ok (.goto 10, 3) := by decide +kernel
theorem dX12_shop_91 : decode cX12_shop 91 = .ok (.iload 5, 2) := by decide +kernel
theorem dX12_shop_93 : decode cX12_shop 93 = .ok (.istore_n 3, 1) := by decide +kernel
theorem dX12_shop_94 : decode cX12_shop 94 = .ok (.iload 6, 2) := by decide +kernel
theorem dX12_shop_96 : decode cX12_shop 96 = .ok (.istore 4, 2) := by decide +kernel
theorem dX12_shop_98 : decode cX12_shop 98 = .ok (.iinc 5 (-1), 3) := by decide +kernel
theorem dX12_shop_101 : decode cX12_shop 101 = .ok (.goto (-49), 3) := by decide +kernel
theorem dX12_shop_104 : decode cX12_shop 104 = .ok (.iload_n 2, 1) := by decide +kernel
theorem dX12_shop_105 : decode cX12_shop 105 = .ok (.ifCond .ne 6, 3) := by decide +kernel
theorem dX12_shop_108 : decode cX12_shop 108 = .ok (.iload 4, 2) := by decide +kernel
theorem dX12_shop_110 : decode cX12_shop 110 = .ok (.ireturn, 1) := by decide +kernel
theorem dX12_shop_111 : decode cX12_shop 111 = .ok (.iload_n 3, 1) := by decide +kernel
theorem dX12_shop_112 : decode cX12_shop 112 = .ok (.istore 5, 2) := by decide +kernel
theorem dX12_shop_114 : decode cX12_shop 114 = .ok (.iconst 1, 1) := by decide +kernel
theorem dX12_shop_115 : decode cX12_shop 115 = .ok (.istore 6, 2) := by decide +kernel
theorem dX12_shop_117 : decode cX12_shop 117 = .ok (.iload 6, 2) := by decide +kernel
theorem dX12_shop_119 : decode cX12_shop 119 = .ok (.iload_n 2, 1) := by decide +kernel
theorem dX12_shop_120 : decode cX12_shop 120 = .ok (.bipush 10, 2) := by decide +kernel
theorem dX12_shop_122 : decode cX12_shop 122 = .ok (.isub, 1) := by decide +kernel
theorem dX12_shop_123 : decode cX12_shop 123 = .ok (.if_icmp .gt 69, 3) := by decide +kernel
theorem dX12_shop_126 : decode cX12_shop 126 = .ok (.iload 5, 2) := by decide +kernel
theorem dX12_shop_128 : decode cX12_shop 128 = .ok (.iconst 1, 1) := by decide +kernel
theorem dX12_shop_129 : decode cX12_shop 129 = .ok (.iadd, 1) := by decide +kernel
theorem dX12_shop_130 : decode cX12_shop 130 = .ok (.istore 7, 2) := by decide +kernel
theorem dX12_shop_132 : decode cX12_shop 132 = .ok (.aload_n 0, 1) := by decide +kernel
theorem dX12_shop_133 : decode cX12_shop 133 = .ok (.iload 5, 2) := by decide +kernel
theorem dX12_shop_135 : decode cX12_shop 135 = .ok (.iload 7, 2) := by decide +kernel
theorem dX12_shop_137 : decode cX12_shop 137 = .ok (.invokevirtual 437, 3) := by decide +kernel
theorem dX12_shop_140 : decode cX12_shop 140 = .ok (.aload_n 0, 1) := by decide +kernel
theorem dX12_shop_141 : decode cX12_shop 141 = .ok (.getfield 141, 3) := by decide +kernel
theorem dX12_shop_144 : decode cX12_shop 144 = .ok (.bipush 61, 2) := by decide +kernel
theorem dX12_shop_146 : decode cX12_shop 146 = .ok (.iload_n 1, 1) := by decide +kernel
theorem dX12_shop_147 : decode cX12_shop 147 = .ok (.iconst 1, 1) := by decide +kernel
theorem dX12_shop_148 : decode cX12_shop 148 = .ok (.isub, 1) := by decide +kernel
theorem dX12_shop_149 : decode cX12_shop 149 = .ok (.iload 6, 2) := by decide +kernel
theorem dX12_shop_151 : decode cX12_shop 151 = .ok (.isub, 1) := by decide +kernel
theorem dX12_shop_152 : decode cX12_shop 152 = .ok (.imul, 1) := by decide +kernel
theorem dX12_shop_153 : decode cX12_shop 153 = .ok (.iload 7, 2) := by decide +kernel
theorem dX12_shop_155 : decode cX12_shop 155 = .ok (.iadd, 1) := by decide +kernel
theorem dX12_shop_156 : decode cX12_shop 156 = .ok (.iaload, 1) := by decide +kernel
theorem dX12_shop_157 : decode cX12_shop 157 = .ok (.iadd, 1) := by decide +kernel
theorem dX12_shop_158 : decode cX12_shop 158 = .ok (.aload_n 0, 1) := by decide +kernel
theorem dX12_shop_159 : decode cX12_shop 159 = .ok (.getfield 141, 3) := by decide +kernel
theorem dX12_shop_162 : decode cX12_shop 162 = .ok (.bipush 61, 2) := by decide +kernel
theorem dX12_shop_164 : decode cX12_shop 164 = .ok (.iload_n 1, 1) := by decide +kernel
theorem dX12_shop_165 : decode cX12_shop 165 = .ok (.iload 6, 2) := by decide +kernel
theorem dX12_shop_167 : decode cX12_shop 167 = .ok (.isub, 1) := by decide +kernel
theorem dX12_shop_168 : decode cX12_shop 168 = .ok (.imul, 1) := by decide +kernel
theorem dX12_shop_169 : decode cX12_shop 169 = .ok (.iload 5, 2) := by decide +kernel
theorem dX12_shop_171 : decode cX12_shop 171 = .ok (.iadd, 1) := by decide +kernel
theorem dX12_shop_172 : decode cX12_shop 172 = .ok (.iaload, 1) := by decide +kernel
theorem dX12_shop_173 : decode cX12_shop 173 = .ok (.if_icmp .eq 9, 3) := by decide +kernel
theorem dX12_shop_176 : decode cX12_shop 176 = .ok (.iinc 7 1, 3) := by decide +kernel
theorem dX12_shop_179 : decode cX12_shop 179 = .ok (.goto (-47), 3) := by decide +kernel
theorem dX12_shop_182 : decode cX12_shop 182 = .ok (.iload 7, 2) := by decide +kernel
theorem dX12_shop_184 : decode cX12_shop 184 = .ok (.istore 5, 2) := by decide +kernel
theorem dX12_shop_186 : decode cX12_shop 186 = .ok (.iinc 6 1, 3) := by decide +kernel
theorem dX12_shop_189 : decode cX12_shop 189 = .ok (.goto (-72), 3) := by decide +kernel
theorem dX12_shop_192 : decode cX12_shop 192 = .ok (.iload 5, 2) := by decide +kernel
theorem dX12_shop_194 : decode cX12_shop 194 = .ok (.ireturn, 1) := by decide +kernel
theorem dX12_readBy_0 : decode cX12_readBy 0 = .ok (.iconst 0, 1) := by decide +kernel
theorem dX12_readBy_1 : decode cX12_readBy 1 = .ok (.istore_n 2, 1) := by decide +kernel
theorem dX12_readBy_2 : decode cX12_readBy 2 = .ok (.iconst 1, 1) := by decide +kernel
theorem dX12_readBy_3 : decode cX12_readBy 3 = .ok (.aload_n 0, 1) := by decide +kernel
theorem dX12_readBy_4 : decode cX12_readBy 4 = .ok (.getfield 161, 3) := by decide +kernel
theorem dX12_readBy_7 : decode cX12_readBy 7 = .ok (.bipush 19, 2) := by decide +kernel
theorem dX12_readBy_9 : decode cX12_readBy 9 = .ok (.isub, 1) := by decide +kernel
theorem dX12_readBy_10 : decode cX12_readBy 10 = .ok (.invokestatic 320, 3) := by decide +kernel
theorem dX12_readBy_13 : decode cX12_readBy 13 = .ok (.istore_n 3, 1) := by decide +kernel
theorem dX12_readBy_14 : decode cX12_readBy 14 = .ok (.iload_n 3, 1) := by decide +kernel
theorem dX12_readBy_15 : decode cX12_readBy 15 = .ok (.aload_n 0, 1) := by decide +kernel
theorem dX12_readBy_16 : decode cX12_readBy 16 = .ok (.getfield 161, 3) := by decide +kernel
theorem dX12_readBy_19 : decode cX12_readBy 19 = .ok (.if_icmp .gt 81, 3) := by decide +kernel
theorem dX12_readBy_22 : decode cX12_readBy 22 = .ok (.iconst 0, 1) := by decide +kernel
theorem dX12_readBy_23 : decode cX12_readBy 23 = .ok (.istore 4, 2) := by decide +kernel
theorem dX12_readBy_25 : decode cX12_readBy 25 = .ok (.iload 4, 2) := by decide +kernel
theorem dX12_readBy_27 : decode cX12_readBy 27 = .ok (.aload_n 0, 1) := by decide +kernel
theorem dX12_readBy_28 : decode cX12_readBy 28 = .ok (.getfield 154, 3) := by decide +kernel
theorem dX12_readBy_31 : decode cX12_readBy 31 = .ok (.if_icmp .ge 63, 3) := by decide +kernel
theorem dX12_readBy_34 : decode cX12_readBy 34 = .ok (.bipush 16, 2) := by decide +kernel
theorem dX12_readBy_36 : decode cX12_readBy 36 = .ok (.iload_n 3, 1) := by decide +kernel
theorem dX12_readBy_37 : decode cX12_readBy 37 = .ok (.imul, 1) := by decide +kernel
theorem dX12_readBy_38 : decode cX12_readBy 38 = .ok (.iload 4, 2) := by decide +kernel
theorem dX12_readBy_40 : decode cX12_readBy 40 = .ok (.iadd, 1) := by decide +kernel
theorem dX12_readBy_41 : decode cX12_readBy 41 = .ok (.istore 5, 2) := by decide +kernel
theorem dX12_readBy_43 : decode cX12_readBy 43 = .ok (.iload_n 2, 1) := by decide +kernel
theorem dX12_readBy_44 : decode cX12_readBy 44 = .ok (.aload_n 0, 1) := by decide +kernel
theorem dX12_readBy_45 : decode cX12_readBy 45 = .ok (.iload_n 1, 1) := by decide +kernel
theorem dX12_readBy_46 : decode cX12_readBy 46 = .ok (.iload 4, 2) := by decide +kernel
theorem dX12_readBy_48 : decode cX12_readBy 48 = .ok (.iload_n 3, 1) := by decide +kernel
theorem dX12_readBy_49 : decode cX12_readBy 49 = .ok (.iconst 1, 1) := by decide +kernel
theorem dX12_readBy_50 : decode cX12_readBy 50 = .ok (.isub, 1) := by decide +kernel
theorem dX12_readBy_51 : decode cX12_readBy 51 = .ok (.aload_n 0, 1) := by decide +kernel
theorem dX12_readBy_52 : decode cX12_readBy 52 = .ok (.getfield 44, 3) := by decide +kernel
theorem dX12_readBy_55 : decode cX12_readBy 55 = .ok (.iload 5, 2) := by decide +kernel
theorem dX12_readBy_57 : decode cX12_readBy 57 = .ok (.iaload, 1) := by decide +kernel
theorem dX12_readBy_58 : decode cX12_readBy 58 = .ok (.aload_n 0, 1) := by decide +kernel
theorem dX12_readBy_59 : decode cX12_readBy 59 = .ok (.getfield 38, 3) := by decide +kernel
theorem dX12_readBy_62 : decode cX12_readBy 62 = .ok (.iload 5, 2) := by decide +kernel
theorem dX12_readBy_64 : decode cX12_readBy 64 = .ok (.iaload, 1) := by decide +kernel
theorem dX12_readBy_65 : decode cX12_readBy 65 = .ok (.aload_n 0, 1) := by decide +kernel
theorem dX12_readBy_66 : decode cX12_readBy 66 = .ok (.getfield 41, 3) := by decide +kernel
theorem dX12_readBy_69 : decode cX12_readBy 69 = .ok (.iload 5, 2) := by decide +kernel
theorem dX12_readBy_71 : decode cX12_readBy 71 = .ok (.iaload, 1) := by decide +kernel
theorem dX12_readBy_72 : decode cX12_readBy 72 = .ok (.invokevirtual 346, 3) := by decide +kernel
theorem dX12_readBy_75 : decode cX12_readBy 75 = .ok (.aload_n 0, 1) := by decide +kernel
theorem dX12_readBy_76 : decode cX12_readBy 76 = .ok (.getfield 35, 3) := by decide +kernel
theorem dX12_readBy_79 : decode cX12_readBy 79 = .ok (.iload 5, 2) := by decide +kernel
theorem dX12_readBy_81 : decode cX12_readBy 81 = .ok (.iaload, 1) := by decide +kernel
theorem dX12_readBy_82 : decode cX12_readBy 82 = .ok (.isub, 1) := by decide +kernel
theorem dX12_readBy_83 : decode cX12_readBy 83 = .ok (.invokestatic 337, 3) := by decide +kernel
theorem dX12_readBy_86 : decode cX12_readBy 86 = .ok (.iadd, 1) := by decide +kernel
theorem dX12_readBy_87 : decode cX12_readBy 87 = .ok (.istore_n 2, 1) := by decide +kernel
theorem dX12_readBy_88 : decode cX12_readBy 88 = .ok (.iinc 4 1, 3) := by decide +kernel
theorem dX12_readBy_91 : decode cX12_readBy 91 = .ok (.goto (-66), 3) := by decide +kernel
theorem dX12_readBy_94 : decode cX12_readBy 94 = .ok (.iinc 3 1, 3) := by decide +kernel
theorem dX12_readBy_97 : decode cX12_readBy 97 = .ok (.goto (-83), 3) := by decide +kernel
theorem dX12_readBy_100 : decode cX12_readBy 100 = .ok (.iload_n 2, 1) := by decide +kernel
theorem dX12_readBy_101 : decode cX12_readBy 101 = .ok (.ireturn, 1) := by decide +kernel
theorem dX12_read_0 : decode cX12_read 0 = .ok (.iload_n 1, 1) := by decide +kernel
theorem dX12_read_1 : decode cX12_read 1 = .ok (.iconst (-1), 1) := by decide +kernel
theorem dX12_read_2 : decode cX12_read 2 = .ok (.if_icmp .eq 27, 3) := by decide +kernel
theorem dX12_read_5 : decode cX12_read 5 = .ok (.iload_n 1, 1) := by decide +kernel
theorem dX12_read_6 : decode cX12_read 6 = .ok (.iconst 0, 1) := by decide +kernel
theorem dX12_read_7 : decode cX12_read 7 = .ok (.aload_n 0, 1) := by decide +kernel
theorem dX12_read_8 : decode cX12_read 8 = .ok (.getfield 293, 3) := by decide +kernel
theorem dX12_read_11 : decode cX12_read 11 = .ok (.iconst 1, 1) := by decide +kernel
theorem dX12_read_12 : decode cX12_read 12 = .ok (.isub, 1) := by decide +kernel
theorem dX12_read_13 : decode cX12_read 13 = .ok (.invokestatic 157, 3) := by decide +kernel
theorem dX12_read_16 : decode cX12_read 16 = .ok (.ifCond .eq 11, 3) := by decide +kernel
theorem dX12_read_19 : decode cX12_read 19 = .ok (.aload_n 0, 1) := by decide +kernel
theorem dX12_read_20 : decode cX12_read 20 = .ok (.iload_n 1, 1) := by decide +kernel
theorem dX12_read_21 : decode cX12_read 21 = .ok (.invokevirtual 444, 3) := by decide +kernel
theorem dX12_read_24 : decode cX12_read 24 = .ok (.goto 4, 3) := by decide +kernel
theorem dX12_read_27 : decode cX12_read 27 = .ok (.iconst (-1), 1) := by decide +kernel
theorem dX12_read_28 : decode cX12_read 28 = .ok (.ireturn, 1) := by decide +kernel
theorem dX12_read_29 : decode cX12_read 29 = .ok (.iconst (-1), 1) := by decide +kernel
theorem dX12_read_30 : decode cX12_read 30 = .ok (.istore_n 2, 1) := by decide +kernel
theorem dX12_read_31 : decode cX12_read 31 = .ok (.iconst 0, 1) := by decide +kernel
theorem dX12_read_32 : decode cX12_read 32 = .ok (.istore_n 3, 1) := by decide +kernel
theorem dX12_read_33 : decode cX12_read 33 = .ok (.iconst 0, 1) := by decide +kernel
theorem dX12_read_34 : decode cX12_read 34 = .ok (.istore 4, 2) := by decide +kernel
theorem dX12_read_36 : decode cX12_read 36 = .ok (.iload 4, 2) := by decide +kernel
theorem dX12_read_38 : decode cX12_read 38 = .ok (.aload_n 0, 1) := by decide +kernel
theorem dX12_read_39 : decode cX12_read 39 = .ok (.getfield 293, 3) := by decide +kernel
theorem dX12_read_42 : decode cX12_read 42 = .ok (.if_icmp .ge 37, 3) := by decide +kernel
theorem dX12_read_45 : decode cX12_read 45 = .ok (.aload_n 0, 1) := by decide +kernel
theorem dX12_read_46 : decode cX12_read 46 = .ok (.iload 4, 2) := by decide +kernel
theorem dX12_read_48 : decode cX12_read 48 = .ok (.invokevirtual 444, 3) := by decide +kernel
theorem dX12_read_51 : decode cX12_read 51 = .ok (.istore 5, 2) := by decide +kernel
theorem dX12_read_53 : decode cX12_read 53 = .ok (.iload_n 2, 1) := by decide +kernel
theorem dX12_read_54 : decode cX12_read 54 = .ok (.iconst (-1), 1) := by decide +kernel
theorem dX12_read_55 : decode cX12_read 55 = .ok (.if_icmp .eq 12, 3) := by decide +kernel
theorem dX12_read_58 : decode cX12_read 58 = .ok (.iload 5, 2) := by decide +kernel
theorem dX12_read_60 : decode cX12_read 60 = .ok (.iload_n 3, 1) := by decide +kernel
theorem dX12_read_61 : decode cX12_read 61 = .ok (.if_icmp .lt 6, 3) := by decide +kernel
theorem dX12_read_64 : decode cX12_read 64 = .ok (.goto 9, 3) := by decide +kernel
theorem dX12_read_67 : decode cX12_read 67 = .ok (.iload 4, 2) := by decide +kernel
theorem dX12_read_69 : decode cX12_read 69 = .ok (.istore_n 2, 1) := by decide +kernel
theorem dX12_read_70 : decode cX12_read 70 = .ok (.iload 5, 2) := by decide +kernel
theorem dX12_read_72 : decode cX12_read 72 = .ok (.istore_n 3, 1) := by decide +kernel
theorem dX12_read_73 : decode cX12_read 73 = .ok (.iinc 4 1, 3) := by decide +kernel
theorem dX12_read_76 : decode cX12_read 76 = .ok (.goto (-40), 3) := by decide +kernel
theorem dX12_read_79 : decode cX12_read 79 = .ok (.iload_n 2, 1) := by decide +kernel
theorem dX12_read_80 : decode cX12_read 80 = .ok (.ireturn, 1) := by decide +kernel
theorem dX12_lays_0 : decode cX12_lays 0 = .ok (.iconst 0, 1) := by decide +kernel
theorem dX12_lays_1 : decode cX12_lays 1 = .ok (.istore_n 3, 1) := by decide +kernel
theorem dX12_lays_2 : decode cX12_lays 2 = .ok (.iload_n 3, 1) := by decide +kernel
theorem dX12_lays_3 : decode cX12_lays 3 = .ok (.iload_n 2, 1) := by decide +kernel
theorem dX12_lays_4 : decode cX12_lays 4 = .ok (.if_icmp .ge 23, 3) := by decide +kernel
theorem dX12_lays_7 : decode cX12_lays 7 = .ok (.aload_n 0, 1) := by decide +kernel
theorem dX12_lays_8 : decode cX12_lays 8 = .ok (.getfield 145, 3) := by decide +kernel
theorem dX12_lays_11 : decode cX12_lays 11 = .ok (.aload_n 0, 1) := by decide +kernel
theorem dX12_lays_12 : decode cX12_lays 12 = .ok (.getfield 447, 3) := by decide +kernel
theorem dX12_lays_15 : decode cX12_lays 15 = .ok (.iload_n 3, 1) := by decide +kernel
theorem dX12_lays_16 : decode cX12_lays 16 = .ok (.iadd, 1) := by decide +kernel
theorem dX12_lays_17 : decode cX12_lays 17 = .ok (.aload_n 1, 1) := by decide +kernel
theorem dX12_lays_18 : decode cX12_lays 18 = .ok (.iload_n 3, 1) := by decide +kernel
theorem dX12_lays_19 : decode cX12_lays 19 = .ok (.iaload, 1) := by decide +kernel
theorem dX12_lays_20 : decode cX12_lays 20 = .ok (.iastore, 1) := by decide +kernel
theorem dX12_lays_21 : decode cX12_lays 21 = .ok (.iinc 3 1, 3) := by decide +kernel
theorem dX12_lays_24 : decode cX12_lays 24 = .ok (.goto (-22), 3) := by decide +kernel
theorem dX12_lays_27 : decode cX12_lays 27 = .ok (.aload_n 0, 1) := by decide +kernel
theorem dX12_lays_28 : decode cX12_lays 28 = .ok (.dup, 1) := by decide +kernel
theorem dX12_lays_29 : decode cX12_lays 29 = .ok (.getfield 447, 3) := by decide +kernel
theorem dX12_lays_32 : decode cX12_lays 32 = .ok (.iload_n 2, 1) := by decide +kernel
theorem dX12_lays_33 : decode cX12_lays 33 = .ok (.iadd, 1) := by decide +kernel
theorem dX12_lays_34 : decode cX12_lays 34 = .ok (.putfield 447, 3) := by decide +kernel
theorem dX12_lays_37 : decode cX12_lays 37 = .ok (.return_, 1) := by decide +kernel
theorem dX12_fetches_0 : decode cX12_fetches 0 = .ok (.iconst 0, 1) := by decide +kernel
theorem dX12_fetches_1 : decode cX12_fetches 1 = .ok (.istore_n 3, 1) := by decide +kernel
theorem dX12_fetches_2 : decode cX12_fetches 2 = .ok (.iload_n 3, 1) := by decide +kernel
theorem dX12_fetches_3 : decode cX12_fetches 3 = .ok (.iload_n 2, 1) := by decide +kernel
theorem dX12_fetches_4 : decode cX12_fetches 4 = .ok (.if_icmp .ge 23, 3) := by decide +kernel
theorem dX12_fetches_7 : decode cX12_fetches 7 = .ok (.aload_n 1, 1) := by decide +kernel
theorem dX12_fetches_8 : decode cX12_fetches 8 = .ok (.iload_n 3, 1) := by decide +kernel
theorem dX12_fetches_9 : decode cX12_fetches 9 = .ok (.aload_n 0, 1) := by decide +kernel
theorem dX12_fetches_10 : decode cX12_fetches 10 = .ok (.getfield 145, 3) := by decide +kernel
theorem dX12_fetches_13 : decode cX12_fetches 13 = .ok (.aload_n 0, 1) := by decide +kernel
theorem dX12_fetches_14 : decode cX12_fetches 14 = .ok (.getfield 447, 3) := by decide +kernel
theorem dX12_fetches_17 : decode cX12_fetches 17 = .ok (.iload_n 3, 1) := by decide +kernel
theorem dX12_fetches_18 : decode cX12_fetches 18 = .ok (.iadd, 1) := by decide +kernel
theorem dX12_fetches_19 : decode cX12_fetches 19 = .ok (.iaload, 1) := by decide +kernel
theorem dX12_fetches_20 : decode cX12_fetches 20 = .ok (.iastore, 1) := by decide +kernel
theorem dX12_fetches_21 : decode cX12_fetches 21 = .ok (.iinc 3 1, 3) := by decide +kernel
theorem dX12_fetches_24 : decode cX12_fetches 24 = .ok (.goto (-22), 3) := by decide +kernel
theorem dX12_fetches_27 : decode cX12_fetches 27 = .ok (.aload_n 0, 1) := by decide +kernel
theorem dX12_fetches_28 : decode cX12_fetches 28 = .ok (.dup, 1) := by decide +kernel
theorem dX12_fetches_29 : decode cX12_fetches 29 = .ok (.getfield 447, 3) := by decide +kernel
theorem dX12_fetches_32 : decode cX12_fetches 32 = .ok (.iload_n 2, 1) := by decide +kernel
theorem dX12_fetches_33 : decode cX12_fetches 33 = .ok (.iadd, 1) := by decide +kernel
theorem dX12_fetches_34 : decode cX12_fetches 34 = .ok (.putfield 447, 3) := by decide +kernel
theorem dX12_fetches_37 : decode cX12_fetches 37 = .ok (.return_, 1) := by decide +kernel
theorem dX12_image_0 : decode cX12_image 0 = .ok (.aload_n 0, 1) := by decide +kernel
theorem dX12_image_1 : decode cX12_image 1 = .ok (.getfield 450, 3) := by decide +kernel
theorem dX12_image_4 : decode cX12_image 4 = .ok (.iconst 3, 1) := by decide +kernel
theorem dX12_image_5 : decode cX12_image 5 = .ok (.if_icmp .ne 5, 3) := by decide +kernel
theorem dX12_image_8 : decode cX12_image 8 = .ok (.iconst (-1), 1) := by decide +kernel
theorem dX12_image_9 : decode cX12_image 9 = .ok (.ireturn, 1) := by decide +kernel
theorem dX12_image_10 : decode cX12_image 10 = .ok (.aload_n 0, 1) := by decide +kernel
theorem dX12_image_11 : decode cX12_image 11 = .ok (.sipush 15000, 3) := by decide +kernel
theorem dX12_image_14 : decode cX12_image 14 = .ok (.aload_n 0, 1) := by decide +kernel
theorem dX12_image_15 : decode cX12_image 15 = .ok (.getfield 450, 3) := by decide +kernel
theorem dX12_image_18 : decode cX12_image 18 = .ok (.imul, 1) := by decide +kernel
theorem dX12_image_19 : decode cX12_image 19 = .ok (.putfield 447, 3) := by decide +kernel
theorem dX12_image_22 : decode cX12_image 22 = .ok (.aload_n 0, 1) := by decide +kernel
theorem dX12_image_23 : decode cX12_image 23 = .ok (.getfield 148, 3) := by decide +kernel
theorem dX12_image_26 : decode cX12_image 26 = .ok (.aload_n 0, 1) := by decide +kernel
theorem dX12_image_27 : decode cX12_image 27 = .ok (.getfield 450, 3) := by decide +kernel
theorem dX12_image_30 : decode cX12_image 30 = .ok (.aload_n 0, 1) := by decide +kernel
theorem dX12_image_31 : decode cX12_image 31 = .ok (.getfield 7, 3) := by decide +kernel
theorem dX12_image_34 : decode cX12_image 34 = .ok (.lastore, 1) := by decide +kernel
theorem dX12_image_35 : decode cX12_image 35 = .ok (.aload_n 0, 1) := by decide +kernel
theorem dX12_image_36 : decode cX12_image 36 = .ok (.getfield 151, 3) := by decide +kernel
theorem dX12_image_39 : decode cX12_image 39 = .ok (.iconst 0, 1) := by decide +kernel
theorem dX12_image_40 : decode cX12_image 40 = .ok (.aload_n 0, 1) := by decide +kernel
theorem dX12_image_41 : decode cX12_image 41 = .ok (.getfield 154, 3) := by decide +kernel
theorem dX12_image_44 : decode cX12_image 44 = .ok (.iastore, 1) := by decide +kernel
theorem dX12_image_45 : decode cX12_image 45 = .ok (.aload_n 0, 1) := by decide +kernel
theorem dX12_image_46 : decode cX12_image 46 = .ok (.getfield 151, 3) := by decide +kernel
theorem dX12_image_49 : decode cX12_image 49 = .ok (.iconst 1, 1) := by decide +kernel
theorem dX12_image_50 : decode cX12_image 50 = .ok (.aload_n 0, 1) := by decide +kernel
theorem dX12_image_51 : decode cX12_image 51 = .ok (.getfield 161, 3) := by decide +kernel
theorem dX12_image_54 : decode cX12_image 54 = .ok (.iastore, 1) := by decide +kernel
theorem dX12_image_55 : decode cX12_image 55 = .ok (.aload_n 0, 1) := by decide +kernel
theorem dX12_image_56 : decode cX12_image 56 = .ok (.getfield 151, 3) := by decide +kernel
theorem dX12_image_59 : decode cX12_image 59 = .ok (.iconst 2, 1) := by decide +kernel
theorem dX12_image_60 : decode cX12_image 60 = .ok (.aload_n 0, 1) := by decide +kernel
theorem dX12_image_61 : decode cX12_image 61 = .ok (.getfield 164, 3) := by decide +kernel
theorem dX12_image_64 : decode cX12_image 64 = .ok (.iastore, 1) := by decide +kernel
theorem dX12_image_65 : decode cX12_image 65 = .ok (.aload_n 0, 1) := by decide +kernel
theorem dX12_image_66 : decode cX12_image 66 = .ok (.getfield 151, 3) := by decide +kernel
theorem dX12_image_69 : decode cX12_image 69 = .ok (.iconst 3, 1) := by decide +kernel
theorem dX12_image_70 : decode cX12_image 70 = .ok (.aload_n 0, 1) := by decide +kernel
theorem dX12_image_71 : decode cX12_image 71 = .ok (.getfield 171, 3) := by decide +kernel
theorem dX12_image_74 : decode cX12_image 74 = .ok (.iastore, 1) := by decide +kernel
theorem dX12_image_75 : decode cX12_image 75 = .ok (.aload_n 0, 1) := by decide +kernel
theorem dX12_image_76 : decode cX12_image 76 = .ok (.getfield 151, 3) := by decide +kernel
theorem dX12_image_79 : decode cX12_image 79 = .ok (.iconst 4, 1) := by decide +kernel
theorem dX12_image_80 : decode cX12_image 80 = .ok (.aload_n 0, 1) := by decide +kernel
theorem dX12_image_81 : decode cX12_image 81 = .ok (.getfield 174, 3) := by decide +kernel
theorem dX12_image_84 : decode cX12_image 84 = .ok (.iastore, 1) := by decide +kernel
theorem dX12_image_85 : decode cX12_image 85 = .ok (.aload_n 0, 1) := by decide +kernel
theorem dX12_image_86 : decode cX12_image 86 = .ok (.getfield 151, 3) := by decide +kernel
theorem dX12_image_89 : decode cX12_image 89 = .ok (.iconst 5, 1) := by decide +kernel
theorem dX12_image_90 : decode cX12_image 90 = .ok (.aload_n 0, 1) := by decide +kernel
theorem dX12_image_91 : decode cX12_image 91 = .ok (.getfield 177, 3) := by decide +kernel
theorem dX12_image_94 : decode cX12_image 94 = .ok (.iastore, 1) := by decide +kernel
theorem dX12_image_95 : decode cX12_image 95 = .ok (.aload_n 0, 1) := by decide +kernel
theorem dX12_image_96 : decode cX12_image 96 = .ok (.getfield 151, 3) := by decide +kernel
theorem dX12_image_99 : decode cX12_image 99 = .ok (.bipush 6, 2) := by decide +kernel
theorem dX12_image_101 : decode cX12_image 101 = .ok (.aload_n 0, 1) := by decide +kernel
theorem dX12_image_102 : decode cX12_image 102 = .ok (.getfield 434, 3) := by decide +kernel
theorem dX12_image_105 : decode cX12_image 105 = .ok (.iastore, 1) := by decide +kernel
theorem dX12_image_106 : decode cX12_image 106 = .ok (.aload_n 0, 1) := by decide +kernel
theorem dX12_image_107 : decode cX12_image 107 = .ok (.aload_n 0, 1) := by decide +kernel
theorem dX12_image_108 : decode cX12_image 108 = .ok (.getfield 151, 3) := by decide +kernel
theorem dX12_image_111 : decode cX12_image 111 = .ok (.bipush 8, 2) := by decide +kernel
theorem dX12_image_113 : decode cX12_image 113 = .ok (.invokevirtual 453, 3) := by decide +kernel
theorem dX12_image_116 : decode cX12_image 116 = .ok (.aload_n 0, 1) := by decide +kernel
theorem dX12_image_117 : decode cX12_image 117 = .ok (.aload_n 0, 1) := by decide +kernel
theorem dX12_image_118 : decode cX12_image 118 = .ok (.getfield 13, 3) := by decide +kernel
theorem dX12_image_121 : decode cX12_image 121 = .ok (.bipush 16, 2) := by decide +kernel
theorem dX12_image_123 : decode cX12_image 123 = .ok (.invokevirtual 453, 3) := by decide +kernel
theorem dX12_image_126 : decode cX12_image 126 = .ok (.aload_n 0, 1) := by decide +kernel
theorem dX12_image_127 : decode cX12_image 127 = .ok (.aload_n 0, 1) := by decide +kernel
theorem dX12_image_128 : decode cX12_image 128 = .ok (.getfield 17, 3) := by decide +kernel
theorem dX12_image_131 : decode cX12_image 131 = .ok (.bipush 16, 2) := by decide +kernel
theorem dX12_image_133 : decode cX12_image 133 = .ok (.invokevirtual 453, 3) := by decide +kernel
theorem dX12_image_136 : decode cX12_image 136 = .ok (.aload_n 0, 1) := by decide +kernel
theorem dX12_image_137 : decode cX12_image 137 = .ok (.aload_n 0, 1) := by decide +kernel
theorem dX12_image_138 : decode cX12_image 138 = .ok (.getfield 20, 3) := by decide +kernel
theorem dX12_image_141 : decode cX12_image 141 = .ok (.bipush 16, 2) := by decide +kernel
theorem dX12_image_143 : decode cX12_image 143 = .ok (.invokevirtual 453, 3) := by decide +kernel
theorem dX12_image_146 : decode cX12_image 146 = .ok (.aload_n 0, 1) := by decide +kernel
theorem dX12_image_147 : decode cX12_image 147 = .ok (.aload_n 0, 1) := by decide +kernel
theorem dX12_image_148 : decode cX12_image 148 = .ok (.getfield 23, 3) := by decide +kernel
theorem dX12_image_151 : decode cX12_image 151 = .ok (.bipush 16, 2) := by decide +kernel
theorem dX12_image_153 : decode cX12_image 153 = .ok (.invokevirtual 453, 3) := by decide +kernel
theorem dX12_image_156 : decode cX12_image 156 = .ok (.aload_n 0, 1) := by decide +kernel
theorem dX12_image_157 : decode cX12_image 157 = .ok (.aload_n 0, 1) := by decide +kernel
theorem dX12_image_158 : decode cX12_image 158 = .ok (.getfield 26, 3) := by decide +kernel
theorem dX12_image_161 : decode cX12_image 161 = .ok (.bipush 16, 2) := by decide +kernel
theorem dX12_image_163 : decode cX12_image 163 = .ok (.invokevirtual 453, 3) := by decide +kernel
theorem dX12_image_166 : decode cX12_image 166 = .ok (.aload_n 0, 1) := by decide +kernel
theorem dX12_image_167 : decode cX12_image 167 = .ok (.aload_n 0, 1) := by decide +kernel
theorem dX12_image_168 : decode cX12_image 168 = .ok (.getfield 29, 3) := by decide +kernel
theorem dX12_image_171 : decode cX12_image 171 = .ok (.iconst 4, 1) := by decide +kernel
theorem dX12_image_172 : decode cX12_image 172 = .ok (.invokevirtual 453, 3) := by decide +kernel
theorem dX12_image_175 : decode cX12_image 175 = .ok (.aload_n 0, 1) := by decide +kernel
theorem dX12_image_176 : decode cX12_image 176 = .ok (.aload_n 0, 1) := by decide +kernel
theorem dX12_image_177 : decode cX12_image 177 = .ok (.getfield 32, 3) := by decide +kernel
theorem dX12_image_180 : decode cX12_image 180 = .ok (.bipush 96, 2) := by decide +kernel
theorem dX12_image_182 : decode cX12_image 182 = .ok (.invokevirtual 453, 3) := by decide +kernel
theorem dX12_image_185 : decode cX12_image 185 = .ok (.aload_n 0, 1) := by decide +kernel
theorem dX12_image_186 : decode cX12_image 186 = .ok (.aload_n 0, 1) := by decide +kernel
theorem dX12_image_187 : decode cX12_image 187 = .ok (.getfield 129, 3) := by decide +kernel
theorem dX12_image_190 : decode cX12_image 190 = .ok (.bipush 20, 2) := by decide +kernel
theorem dX12_image_192 : decode cX12_image 192 = .ok (.invokevirtual 453, 3) := by decide +kernel
theorem dX12_image_195 : decode cX12_image 195 = .ok (.aload_n 0, 1) := by decide +kernel
theorem dX12_image_196 : decode cX12_image 196 = .ok (.aload_n 0, 1) := by decide +kernel
theorem dX12_image_197 : decode cX12_image 197 = .ok (.getfield 132, 3) := by decide +kernel
theorem dX12_image_200 : decode cX12_image 200 = .ok (.bipush 20, 2) := by decide +kernel
theorem dX12_image_202 : decode cX12_image 202 = .ok (.invokevirtual 453, 3) := by decide +kernel
theorem dX12_image_205 : decode cX12_image 205 = .ok (.aload_n 0, 1) := by decide +kernel
theorem dX12_image_206 : decode cX12_image 206 = .ok (.aload_n 0, 1) := by decide +kernel
theorem dX12_image_207 : decode cX12_image 207 = .ok (.getfield 135, 3) := by decide +kernel
theorem dX12_image_210 : decode cX12_image 210 = .ok (.bipush 20, 2) := by decide +kernel
theorem dX12_image_212 : decode cX12_image 212 = .ok (.invokevirtual 453, 3) := by decide +kernel
theorem dX12_image_215 : decode cX12_image 215 = .ok (.aload_n 0, 1) := by decide +kernel
theorem dX12_image_216 : decode cX12_image 216 = .ok (.aload_n 0, 1) := by decide +kernel
theorem dX12_image_217 : decode cX12_image 217 = .ok (.getfield 35, 3) := by decide +kernel
theorem dX12_image_220 : decode cX12_image 220 = .ok (.sipush 3216, 3) := by decide +kernel
theorem dX12_image_223 : decode cX12_image 223 = .ok (.invokevirtual 453, 3) := by decide +kernel
theorem dX12_image_226 : decode cX12_image 226 = .ok (.aload_n 0, 1) := by decide +kernel
theorem dX12_image_227 : decode cX12_image 227 = .ok (.aload_n 0, 1) := by decide +kernel
theorem dX12_image_228 : decode cX12_image 228 = .ok (.getfield 38, 3) := by decide +kernel
theorem dX12_image_231 : decode cX12_image 231 = .ok (.sipush 3216, 3) := by decide +kernel
theorem dX12_image_234 : decode cX12_image 234 = .ok (.invokevirtual 453, 3) := by decide +kernel
theorem dX12_image_237 : decode cX12_image 237 = .ok (.aload_n 0, 1) := by decide +kernel
theorem dX12_image_238 : decode cX12_image 238 = .ok (.aload_n 0, 1) := by decide +kernel
theorem dX12_image_239 : decode cX12_image 239 = .ok (.getfield 41, 3) := by decide +kernel
theorem dX12_image_242 : decode cX12_image 242 = .ok (.sipush 3216, 3) := by decide +kernel
theorem dX12_image_245 : decode cX12_image 245 = .ok (.invokevirtual 453, 3) := by decide +kernel
theorem dX12_image_248 : decode cX12_image 248 = .ok (.aload_n 0, 1) := by decide +kernel
theorem dX12_image_249 : decode cX12_image 249 = .ok (.aload_n 0, 1) := by decide +kernel
theorem dX12_image_250 : decode cX12_image 250 = .ok (.getfield 44, 3) := by decide +kernel
theorem dX12_image_253 : decode cX12_image 253 = .ok (.sipush 3216, 3) := by decide +kernel
theorem dX12_image_256 : decode cX12_image 256 = .ok (.invokevirtual 453, 3) := by decide +kernel
theorem dX12_image_259 : decode cX12_image 259 = .ok (.aload_n 0, 1) := by decide +kernel
theorem dX12_image_260 : decode cX12_image 260 = .ok (.aload_n 0, 1) := by decide +kernel
theorem dX12_image_261 : decode cX12_image 261 = .ok (.getfield 47, 3) := by decide +kernel
theorem dX12_image_264 : decode cX12_image 264 = .ok (.sipush 804, 3) := by decide +kernel
theorem dX12_image_267 : decode cX12_image 267 = .ok (.invokevirtual 453, 3) := by decide +kernel
theorem dX12_image_270 : decode cX12_image 270 = .ok (.aload_n 0, 1) := by decide +kernel
theorem dX12_image_271 : decode cX12_image 271 = .ok (.aload_n 0, 1) := by decide +kernel
theorem dX12_image_272 : decode cX12_image 272 = .ok (.getfield 50, 3) := by decide +kernel
theorem dX12_image_275 : decode cX12_image 275 = .ok (.sipush 201, 3) := by decide +kernel
theorem dX12_image_278 : decode cX12_image 278 = .ok (.invokevirtual 453, 3) := by decide +kernel
theorem dX12_image_281 : decode cX12_image 281 = .ok (.aload_n 0, 1) := by decide +kernel
theorem dX12_image_282 : decode cX12_image 282 = .ok (.dup, 1) := by decide +kernel
theorem dX12_image_283 : decode cX12_image 283 = .ok (.getfield 450, 3) := by decide +kernel
theorem dX12_image_286 : decode cX12_image 286 = .ok (.iconst 1, 1) := by decide +kernel
theorem dX12_image_287 : decode cX12_image 287 = .ok (.iadd, 1) := by decide +kernel
theorem dX12_image_288 : decode cX12_image 288 = .ok (.putfield 450, 3) := by decide +kernel
theorem dX12_image_291 : decode cX12_image 291 = .ok (.aload_n 0, 1) := by decide +kernel
theorem dX12_image_292 : decode cX12_image 292 = .ok (.getfield 450, 3) := by decide +kernel
theorem dX12_image_295 : decode cX12_image 295 = .ok (.iconst 1, 1) := by decide +kernel
theorem dX12_image_296 : decode cX12_image 296 = .ok (.isub, 1) := by decide +kernel
theorem dX12_image_297 : decode cX12_image 297 = .ok (.ireturn, 1) := by decide +kernel
theorem dX12_back_0 : decode cX12_back 0 = .ok (.iload_n 1, 1) := by decide +kernel
theorem dX12_back_1 : decode cX12_back 1 = .ok (.iconst 0, 1) := by decide +kernel
theorem dX12_back_2 : decode cX12_back 2 = .ok (.aload_n 0, 1) := by decide +kernel
theorem dX12_back_3 : decode cX12_back 3 = .ok (.getfield 450, 3) := by decide +kernel
theorem dX12_back_6 : decode cX12_back 6 = .ok (.iconst 1, 1) := by decide +kernel
theorem dX12_back_7 : decode cX12_back 7 = .ok (.isub, 1) := by decide +kernel
theorem dX12_back_8 : decode cX12_back 8 = .ok (.invokestatic 157, 3) := by decide +kernel
theorem dX12_back_11 : decode cX12_back 11 = .ok (.ifCond .ne 5, 3) := by decide +kernel
theorem dX12_back_14 : decode cX12_back 14 = .ok (.iconst 0, 1) := by decide +kernel
theorem dX12_back_15 : decode cX12_back 15 = .ok (.ireturn, 1) := by decide +kernel
theorem dX12_back_16 : decode cX12_back 16 = .ok (.aload_n 0, 1) := by decide +kernel
theorem dX12_back_17 : decode cX12_back 17 = .ok (.sipush 15000, 3) := by decide +kernel
theorem dX12_back_20 : decode cX12_back 20 = .ok (.iload_n 1, 1) := by decide +kernel
theorem dX12_back_21 : decode cX12_back 21 = .ok (.imul, 1) := by decide +kernel
theorem dX12_back_22 : decode cX12_back 22 = .ok (.putfield 447, 3) := by decide +kernel
theorem dX12_back_25 : decode cX12_back 25 = .ok (.aload_n 0, 1) := by decide +kernel
theorem dX12_back_26 : decode cX12_back 26 = .ok (.aload_n 0, 1) := by decide +kernel
theorem dX12_back_27 : decode cX12_back 27 = .ok (.getfield 148, 3) := by decide +kernel
theorem dX12_back_30 : decode cX12_back 30 = .ok (.iload_n 1, 1) := by decide +kernel
theorem dX12_back_31 : decode cX12_back 31 = .ok (.laload, 1) := by decide +kernel
theorem dX12_back_32 : decode cX12_back 32 = .ok (.putfield 7, 3) := by decide +kernel
theorem dX12_back_35 : decode cX12_back 35 = .ok (.aload_n 0, 1) := by decide +kernel
theorem dX12_back_36 : decode cX12_back 36 = .ok (.aload_n 0, 1) := by decide +kernel
theorem dX12_back_37 : decode cX12_back 37 = .ok (.getfield 151, 3) := by decide +kernel
theorem dX12_back_40 : decode cX12_back 40 = .ok (.bipush 8, 2) := by decide +kernel
theorem dX12_back_42 : decode cX12_back 42 = .ok (.invokevirtual 457, 3) := by decide +kernel
theorem dX12_back_45 : decode cX12_back 45 = .ok (.aload_n 0, 1) := by decide +kernel
theorem dX12_back_46 : decode cX12_back 46 = .ok (.aload_n 0, 1) := by decide +kernel
theorem dX12_back_47 : decode cX12_back 47 = .ok (.getfield 151, 3) := by decide +kernel
theorem dX12_back_50 : decode cX12_back 50 = .ok (.iconst 0, 1) := by decide +kernel
theorem dX12_back_51 : decode cX12_back 51 = .ok (.iaload, 1) := by decide +kernel
theorem dX12_back_52 : decode cX12_back 52 = .ok (.putfield 154, 3) := by decide +kernel
theorem dX12_back_55 : decode cX12_back 55 = .ok (.aload_n 0, 1) := by decide +kernel
theorem dX12_back_56 : decode cX12_back 56 = .ok (.aload_n 0, 1) := by decide +kernel
theorem dX12_back_57 : decode cX12_back 57 = .ok (.getfield 151, 3) := by decide +kernel
theorem dX12_back_60 : decode cX12_back 60 = .ok (.iconst 1, 1) := by decide +kernel
theorem dX12_back_61 : decode cX12_back 61 = .ok (.iaload, 1) := by decide +kernel
theorem dX12_back_62 : decode cX12_back 62 = .ok (.putfield 161, 3) := by decide +kernel
theorem dX12_back_65 : decode cX12_back 65 = .ok (.aload_n 0, 1) := by decide +kernel
theorem dX12_back_66 : decode cX12_back 66 = .ok (.aload_n 0, 1) := by decide +kernel
theorem dX12_back_67 : decode cX12_back 67 = .ok (.getfield 151, 3) := by decide +kernel
theorem dX12_back_70 : decode cX12_back 70 = .ok (.iconst 2, 1) := by decide +kernel
theorem dX12_back_71 : decode cX12_back 71 = .ok (.iaload, 1) := by decide +kernel
theorem dX12_back_72 : decode cX12_back 72 = .ok (.putfield 164, 3) := by decide +kernel
theorem dX12_back_75 : decode cX12_back 75 = .ok (.aload_n 0, 1) := by decide +kernel
theorem dX12_back_76 : decode cX12_back 76 = .ok (.aload_n 0, 1) := by decide +kernel
theorem dX12_back_77 : decode cX12_back 77 = .ok (.getfield 151, 3) := by decide +kernel
theorem dX12_back_80 : decode cX12_back 80 = .ok (.iconst 3, 1) := by decide +kernel
theorem dX12_back_81 : decode cX12_back 81 = .ok (.iaload, 1) := by decide +kernel
theorem dX12_back_82 : decode cX12_back 82 = .ok (.putfield 171, 3) := by decide +kernel
theorem dX12_back_85 : decode cX12_back 85 = .ok (.aload_n 0, 1) := by decide +kernel
theorem dX12_back_86 : decode cX12_back 86 = .ok (.aload_n 0, 1) := by decide +kernel
theorem dX12_back_87 : decode cX12_back 87 = .ok (.getfield 151, 3) := by decide +kernel
theorem dX12_back_90 : decode cX12_back 90 = .ok (.iconst 4, 1) := by decide +kernel
theorem dX12_back_91 : decode cX12_back 91 = .ok (.iaload, 1) := by decide +kernel
theorem dX12_back_92 : decode cX12_back 92 = .ok (.putfield 174, 3) := by decide +kernel
theorem dX12_back_95 : decode cX12_back 95 = .ok (.aload_n 0, 1) := by decide +kernel
theorem dX12_back_96 : decode cX12_back 96 = .ok (.aload_n 0, 1) := by decide +kernel
theorem dX12_back_97 : decode cX12_back 97 = .ok (.getfield 151, 3) := by decide +kernel
theorem dX12_back_100 : decode cX12_back 100 = .ok (.iconst 5, 1) := by decide +kernel
theorem dX12_back_101 : decode cX12_back 101 = .ok (.iaload, 1) := by decide +kernel
theorem dX12_back_102 : decode cX12_back 102 = .ok (.putfield 177, 3) := by decide +kernel
theorem dX12_back_105 : decode cX12_back 105 = .ok (.aload_n 0, 1) := by decide +kernel
theorem dX12_back_106 : decode cX12_back 106 = .ok (.aload_n 0, 1) := by decide +kernel
theorem dX12_back_107 : decode cX12_back 107 = .ok (.getfield 151, 3) := by decide +kernel
theorem dX12_back_110 : decode cX12_back 110 = .ok (.bipush 6, 2) := by decide +kernel
theorem dX12_back_112 : decode cX12_back 112 = .ok (.iaload, 1) := by decide +kernel
theorem dX12_back_113 : decode cX12_back 113 = .ok (.putfield 434, 3) := by decide +kernel
theorem dX12_back_116 : decode cX12_back 116 = .ok (.aload_n 0, 1) := by decide +kernel
theorem dX12_back_117 : decode cX12_back 117 = .ok (.aload_n 0, 1) := by decide +kernel
theorem dX12_back_118 : decode cX12_back 118 = .ok (.getfield 13, 3) := by decide +kernel
theorem dX12_back_121 : decode cX12_back 121 = .ok (.bipush 16, 2) := by decide +kernel
theorem dX12_back_123 : decode cX12_back 123 = .ok (.invokevirtual 457, 3) := by decide +kernel
theorem dX12_back_126 : decode cX12_back 126 = .ok (.aload_n 0, 1) := by decide +kernel
theorem dX12_back_127 : decode cX12_back 127 = .ok (.aload_n 0, 1) := by decide +kernel
theorem dX12_back_128 : decode cX12_back 128 = .ok (.getfield 17, 3) := by decide +kernel
theorem dX12_back_131 : decode cX12_back 131 = .ok (.bipush 16, 2) := by decide +kernel
theorem dX12_back_133 : decode cX12_back 133 = .ok (.invokevirtual 457, 3) := by decide +kernel
theorem dX12_back_136 : decode cX12_back 136 = .ok (.aload_n 0, 1) := by decide +kernel
theorem dX12_back_137 : decode cX12_back 137 = .ok (.aload_n 0, 1) := by decide +kernel
theorem dX12_back_138 : decode cX12_back 138 = .ok (.getfield 20, 3) := by decide +kernel
theorem dX12_back_141 : decode cX12_back 141 = .ok (.bipush 16, 2) := by decide +kernel
theorem dX12_back_143 : decode cX12_back 143 = .ok (.invokevirtual 457, 3) := by decide +kernel
theorem dX12_back_146 : decode cX12_back 146 = .ok (.aload_n 0, 1) := by decide +kernel
theorem dX12_back_147 : decode cX12_back 147 = .ok (.aload_n 0, 1) := by decide +kernel
theorem dX12_back_148 : decode cX12_back 148 = .ok (.getfield 23, 3) := by decide +kernel
theorem dX12_back_151 : decode cX12_back 151 = .ok (.bipush 16, 2) := by decide +kernel
theorem dX12_back_153 : decode cX12_back 153 = .ok (.invokevirtual 457, 3) := by decide +kernel
theorem dX12_back_156 : decode cX12_back 156 = .ok (.aload_n 0, 1) := by decide +kernel
theorem dX12_back_157 : decode cX12_back 157 = .ok (.aload_n 0, 1) := by decide +kernel
theorem dX12_back_158 : decode cX12_back 158 = .ok (.getfield 26, 3) := by decide +kernel
theorem dX12_back_161 : decode cX12_back 161 = .ok (.bipush 16, 2) := by decide +kernel
theorem dX12_back_163 : decode cX12_back 163 = .ok (.invokevirtual 457, 3) := by decide +kernel
theorem dX12_back_166 : decode cX12_back 166 = .ok (.aload_n 0, 1) := by decide +kernel
theorem dX12_back_167 : decode cX12_back 167 = .ok (.aload_n 0, 1) := by decide +kernel
theorem dX12_back_168 : decode cX12_back 168 = .ok (.getfield 29, 3) := by decide +kernel
theorem dX12_back_171 : decode cX12_back 171 = .ok (.iconst 4, 1) := by decide +kernel
theorem dX12_back_172 : decode cX12_back 172 = .ok (.invokevirtual 457, 3) := by decide +kernel
theorem dX12_back_175 : decode cX12_back 175 = .ok (.aload_n 0, 1) := by decide +kernel
theorem dX12_back_176 : decode cX12_back 176 = .ok (.aload_n 0, 1) := by decide +kernel
theorem dX12_back_177 : decode cX12_back 177 = .ok (.getfield 32, 3) := by decide +kernel
theorem dX12_back_180 : decode cX12_back 180 = .ok (.bipush 96, 2) := by decide +kernel
theorem dX12_back_182 : decode cX12_back 182 = .ok (.invokevirtual 457, 3) := by decide +kernel
theorem dX12_back_185 : decode cX12_back 185 = .ok (.aload_n 0, 1) := by decide +kernel
theorem dX12_back_186 : decode cX12_back 186 = .ok (.aload_n 0, 1) := by decide +kernel
theorem dX12_back_187 : decode cX12_back 187 = .ok (.getfield 129, 3) := by decide +kernel
theorem dX12_back_190 : decode cX12_back 190 = .ok (.bipush 20, 2) := by decide +kernel
theorem dX12_back_192 : decode cX12_back 192 = .ok (.invokevirtual 457, 3) := by decide +kernel
theorem dX12_back_195 : decode cX12_back 195 = .ok (.aload_n 0, 1) := by decide +kernel
theorem dX12_back_196 : decode cX12_back 196 = .ok (.aload_n 0, 1) := by decide +kernel
theorem dX12_back_197 : decode cX12_back 197 = .ok (.getfield 132, 3) := by decide +kernel
theorem dX12_back_200 : decode cX12_back 200 = .ok (.bipush 20, 2) := by decide +kernel
theorem dX12_back_202 : decode cX12_back 202 = .ok (.invokevirtual 457, 3) := by decide +kernel
theorem dX12_back_205 : decode cX12_back 205 = .ok (.aload_n 0, 1) := by decide +kernel
theorem dX12_back_206 : decode cX12_back 206 = .ok (.aload_n 0, 1) := by decide +kernel
theorem dX12_back_207 : decode cX12_back 207 = .ok (.getfield 135, 3) := by decide +kernel
theorem dX12_back_210 : decode cX12_back 210 = .ok (.bipush 20, 2) := by decide +kernel
theorem dX12_back_212 : decode cX12_back 212 = .ok (.invokevirtual 457, 3) := by decide +kernel
theorem dX12_back_215 : decode cX12_back 215 = .ok (.aload_n 0, 1) := by decide +kernel
theorem dX12_back_216 : decode cX12_back 216 = .ok (.aload_n 0, 1) := by decide +kernel
theorem dX12_back_217 : decode cX12_back 217 = .ok (.getfield 35, 3) := by decide +kernel
theorem dX12_back_220 : decode cX12_back 220 = .ok (.sipush 3216, 3) := by decide +kernel
theorem dX12_back_223 : decode cX12_back 223 = .ok (.invokevirtual 457, 3) := by decide +kernel
theorem dX12_back_226 : decode cX12_back 226 = .ok (.aload_n 0, 1) := by decide +kernel
theorem dX12_back_227 : decode cX12_back 227 = .ok (.aload_n 0, 1) := by decide +kernel
theorem dX12_back_228 : decode cX12_back 228 = .ok (.getfield 38, 3) := by decide +kernel
theorem dX12_back_231 : decode cX12_back 231 = .ok (.sipush 3216, 3) := by decide +kernel
theorem dX12_back_234 : decode cX12_back 234 = .ok (.invokevirtual 457, 3) := by decide +kernel
theorem dX12_back_237 : decode cX12_back 237 = .ok (.aload_n 0, 1) := by decide +kernel
theorem dX12_back_238 : decode cX12_back 238 = .ok (.aload_n 0, 1) := by decide +kernel
theorem dX12_back_239 : decode cX12_back 239 = .ok (.getfield 41, 3) := by decide +kernel
theorem dX12_back_242 : decode cX12_back 242 = .ok (.sipush 3216, 3) := by decide +kernel
theorem dX12_back_245 : decode cX12_back 245 = .ok (.invokevirtual 457, 3) := by decide +kernel
theorem dX12_back_248 : decode cX12_back 248 = .ok (.aload_n 0, 1) := by decide +kernel
theorem dX12_back_249 : decode cX12_back 249 = .ok (.aload_n 0, 1) := by decide +kernel
theorem dX12_back_250 : decode cX12_back 250 = .ok (.getfield 44, 3) := by decide +kernel
theorem dX12_back_253 : decode cX12_back 253 = .ok (.sipush 3216, 3) := by decide +kernel
theorem dX12_back_256 : decode cX12_back 256 = .ok (.invokevirtual 457, 3) := by decide +kernel
theorem dX12_back_259 : decode cX12_back 259 = .ok (.aload_n 0, 1) := by decide +kernel
theorem dX12_back_260 : decode cX12_back 260 = .ok (.aload_n 0, 1) := by decide +kernel
theorem dX12_back_261 : decode cX12_back 261 = .ok (.getfield 47, 3) := by decide +kernel
theorem dX12_back_264 : decode cX12_back 264 = .ok (.sipush 804, 3) := by decide +kernel
theorem dX12_back_267 : decode cX12_back 267 = .ok (.invokevirtual 457, 3) := by decide +kernel
theorem dX12_back_270 : decode cX12_back 270 = .ok (.aload_n 0, 1) := by decide +kernel
theorem dX12_back_271 : decode cX12_back 271 = .ok (.aload_n 0, 1) := by decide +kernel
theorem dX12_back_272 : decode cX12_back 272 = .ok (.getfield 50, 3) := by decide +kernel
theorem dX12_back_275 : decode cX12_back 275 = .ok (.sipush 201, 3) := by decide +kernel
theorem dX12_back_278 : decode cX12_back 278 = .ok (.invokevirtual 457, 3) := by decide +kernel
theorem dX12_back_281 : decode cX12_back 281 = .ok (.iconst 1, 1) := by decide +kernel
theorem dX12_back_282 : decode cX12_back 282 = .ok (.ireturn, 1) := by decide +kernel
theorem dX12_count_0 : decode cX12_count 0 = .ok (.iload_n 1, 1) := by decide +kernel
theorem dX12_count_1 : decode cX12_count 1 = .ok (.bipush 10, 2) := by decide +kernel
theorem dX12_count_3 : decode cX12_count 3 = .ok (.bipush 13, 2) := by decide +kernel
theorem dX12_count_5 : decode cX12_count 5 = .ok (.invokestatic 157, 3) := by decide +kernel
theorem dX12_count_8 : decode cX12_count 8 = .ok (.ifCond .eq 13, 3) := by decide +kernel
theorem dX12_count_11 : decode cX12_count 11 = .ok (.aload_n 0, 1) := by decide +kernel
theorem dX12_count_12 : decode cX12_count 12 = .ok (.getfield 29, 3) := by decide +kernel
theorem dX12_count_15 : decode cX12_count 15 = .ok (.iload_n 1, 1) := by decide +kernel
theorem dX12_count_16 : decode cX12_count 16 = .ok (.bipush 10, 2) := by decide +kernel
theorem dX12_count_18 : decode cX12_count 18 = .ok (.isub, 1) := by decide +kernel
theorem dX12_count_19 : decode cX12_count 19 = .ok (.iaload, 1) := by decide +kernel
theorem dX12_count_20 : decode cX12_count 20 = .ok (.ireturn, 1) := by decide +kernel
theorem dX12_count_21 : decode cX12_count 21 = .ok (.iload_n 1, 1) := by decide +kernel
theorem dX12_count_22 : decode cX12_count 22 = .ok (.tableswitch 121 0 9 #[54, 59, 64, 69, 74, 96, 101, 106, 111, 116], 54) := by decide +kernel
theorem dX12_count_76 : decode cX12_count 76 = .ok (.aload_n 0, 1) := by decide +kernel
theorem dX12_count_77 : decode cX12_count 77 = .ok (.getfield 154, 3) := by decide +kernel
theorem dX12_count_80 : decode cX12_count 80 = .ok (.ireturn, 1) := by decide +kernel
theorem dX12_count_81 : decode cX12_count 81 = .ok (.aload_n 0, 1) := by decide +kernel
theorem dX12_count_82 : decode cX12_count 82 = .ok (.getfield 161, 3) := by decide +kernel
theorem dX12_count_85 : decode cX12_count 85 = .ok (.ireturn, 1) := by decide +kernel
theorem dX12_count_86 : decode cX12_count 86 = .ok (.aload_n 0, 1) := by decide +kernel
theorem dX12_count_87 : decode cX12_count 87 = .ok (.getfield 293, 3) := by decide +kernel
theorem dX12_count_90 : decode cX12_count 90 = .ok (.ireturn, 1) := by decide +kernel
theorem dX12_count_91 : decode cX12_count 91 = .ok (.aload_n 0, 1) := by decide +kernel
theorem dX12_count_92 : decode cX12_count 92 = .ok (.getfield 53, 3) := by decide +kernel
theorem dX12_count_95 : decode cX12_count 95 = .ok (.ireturn, 1) := by decide +kernel
theorem dX12_count_96 : decode cX12_count 96 = .ok (.aload_n 0, 1) := by decide +kernel
theorem dX12_count_97 : decode cX12_count 97 = .ok (.getfield 53, 3) := by decide +kernel
theorem dX12_count_100 : decode cX12_count 100 = .ok (.iconst (-1), 1) := by decide +kernel
theorem dX12_count_101 : decode cX12_count 101 = .ok (.if_icmp .ne 7, 3) := by decide +kernel
theorem dX12_count_104 : decode cX12_count 104 = .ok (.iconst 0, 1) := by decide +kernel
theorem dX12_count_105 : decode cX12_count 105 = .ok (.goto 12, 3) := by decide +kernel
theorem dX12_count_108 : decode cX12_count 108 = .ok (.aload_n 0, 1) := by decide +kernel
theorem dX12_count_109 : decode cX12_count 109 = .ok (.getfield 60, 3) := by decide +kernel
theorem dX12_count_112 : decode cX12_count 112 = .ok (.aload_n 0, 1) := by decide +kernel
theorem dX12_count_113 : decode cX12_count 113 = .ok (.getfield 53, 3) := by decide +kernel
theorem dX12_count_116 : decode cX12_count 116 = .ok (.iaload, 1) := by decide +kernel
theorem dX12_count_117 : decode cX12_count 117 = .ok (.ireturn, 1) := by decide +kernel
theorem dX12_count_118 : decode cX12_count 118 = .ok (.aload_n 0, 1) := by decide +kernel
theorem dX12_count_119 : decode cX12_count 119 = .ok (.getfield 428, 3) := by decide +kernel
theorem dX12_count_122 : decode cX12_count 122 = .ok (.ireturn, 1) := by decide +kernel
theorem dX12_count_123 : decode cX12_count 123 = .ok (.aload_n 0, 1) := by decide +kernel
theorem dX12_count_124 : decode cX12_count 124 = .ok (.getfield 434, 3) := by decide +kernel
theorem dX12_count_127 : decode cX12_count 127 = .ok (.ireturn, 1) := by decide +kernel
theorem dX12_count_128 : decode cX12_count 128 = .ok (.aload_n 0, 1) := by decide +kernel
theorem dX12_count_129 : decode cX12_count 129 = .ok (.getfield 450, 3) := by decide +kernel
theorem dX12_count_132 : decode cX12_count 132 = .ok (.ireturn, 1) := by decide +kernel
theorem dX12_count_133 : decode cX12_count 133 = .ok (.aload_n 0, 1) := by decide +kernel
theorem dX12_count_134 : decode cX12_count 134 = .ok (.getfield 181, 3) := by decide +kernel
theorem dX12_count_137 : decode cX12_count 137 = .ok (.ireturn, 1) := by decide +kernel
theorem dX12_count_138 : decode cX12_count 138 = .ok (.aload_n 0, 1) := by decide +kernel
theorem dX12_count_139 : decode cX12_count 139 = .ok (.getfield 164, 3) := by decide +kernel
theorem dX12_count_142 : decode cX12_count 142 = .ok (.ireturn, 1) := by decide +kernel
theorem dX12_count_143 : decode cX12_count 143 = .ok (.iconst (-1), 1) := by decide +kernel
theorem dX12_count_144 : decode cX12_count 144 = .ok (.ireturn, 1) := by decide +kernel
theorem dJ6_compare_7cf53_0 : decode cJ6_compare_7cf53 0 = .ok (.iload_n 0, 1) := by decide +kernel
theorem dJ6_compare_7cf53_1 : decode cJ6_compare_7cf53 1 = .ok (.iload_n 1, 1) := by decide +kernel
theorem dJ6_compare_7cf53_2 : decode cJ6_compare_7cf53 2 = .ok (.if_icmp .ge 7, 3) := by decide +kernel
theorem dJ6_compare_7cf53_5 : decode cJ6_compare_7cf53 5 = .ok (.iconst (-1), 1) := by decide +kernel
theorem dJ6_compare_7cf53_6 : decode cJ6_compare_7cf53 6 = .ok (.goto 13, 3) := by decide +kernel
theorem dJ6_compare_7cf53_9 : decode cJ6_compare_7cf53 9 = .ok (.iload_n 0, 1) := by decide +kernel
theorem dJ6_compare_7cf53_10 : decode cJ6_compare_7cf53 10 = .ok (.iload_n 1, 1) := by decide +kernel
theorem dJ6_compare_7cf53_11 : decode cJ6_compare_7cf53 11 = .ok (.if_icmp .ne 7, 3) := by decide +kernel
theorem dJ6_compare_7cf53_14 : decode cJ6_compare_7cf53 14 = .ok (.iconst 0, 1) := by decide +kernel
theorem dJ6_compare_7cf53_15 : decode cJ6_compare_7cf53 15 = .ok (.goto 4, 3) := by decide +kernel
theorem dJ6_compare_7cf53_18 : decode cJ6_compare_7cf53 18 = .ok (.iconst 1, 1) := by decide +kernel
theorem dJ6_compare_7cf53_19 : decode cJ6_compare_7cf53 19 = .ok (.ireturn, 1) := by decide +kernel
theorem dJ6_bitCount_0f7a4_0 : decode cJ6_bitCount_0f7a4 0 = .ok (.iload_n 0, 1) := by decide +kernel
theorem dJ6_bitCount_0f7a4_1 : decode cJ6_bitCount_0f7a4 1 = .ok (.iload_n 0, 1) := by decide +kernel
theorem dJ6_bitCount_0f7a4_2 : decode cJ6_bitCount_0f7a4 2 = .ok (.iconst 1, 1) := by decide +kernel
theorem dJ6_bitCount_0f7a4_3 : decode cJ6_bitCount_0f7a4 3 = .ok (.iushr, 1) := by decide +kernel
theorem dJ6_bitCount_0f7a4_4 : decode cJ6_bitCount_0f7a4 4 = .ok (.ldc_w 265, 3) := by decide +kernel
theorem dJ6_bitCount_0f7a4_7 : decode cJ6_bitCount_0f7a4 7 = .ok (.iand, 1) := by decide +kernel
theorem dJ6_bitCount_0f7a4_8 : decode cJ6_bitCount_0f7a4 8 = .ok (.isub, 1) := by decide +kernel
theorem dJ6_bitCount_0f7a4_9 : decode cJ6_bitCount_0f7a4 9 = .ok (.istore_n 0, 1) := by decide +kernel
theorem dJ6_bitCount_0f7a4_10 : decode cJ6_bitCount_0f7a4 10 = .ok (.iload_n 0, 1) := by decide +kernel
theorem dJ6_bitCount_0f7a4_11 : decode cJ6_bitCount_0f7a4 11 = .ok (.ldc_w 266, 3) := by decide +kernel
theorem dJ6_bitCount_0f7a4_14 : decode cJ6_bitCount_0f7a4 14 = .ok (.iand, 1) := by decide +kernel
theorem dJ6_bitCount_0f7a4_15 : decode cJ6_bitCount_0f7a4 15 = .ok (.iload_n 0, 1) := by decide +kernel
theorem dJ6_bitCount_0f7a4_16 : decode cJ6_bitCount_0f7a4 16 = .ok (.iconst 2, 1) := by decide +kernel
theorem dJ6_bitCount_0f7a4_17 : decode cJ6_bitCount_0f7a4 17 = .ok (.iushr, 1) := by decide +kernel
theorem dJ6_bitCount_0f7a4_18 : decode cJ6_bitCount_0f7a4 18 = .ok (.ldc_w 266, 3) := by decide +kernel
theorem dJ6_bitCount_0f7a4_21 : decode cJ6_bitCount_0f7a4 21 = .ok (.iand, 1) := by decide +kernel
theorem dJ6_bitCount_0f7a4_22 : decode cJ6_bitCount_0f7a4 22 = .ok (.iadd, 1) := by decide +kernel
theorem dJ6_bitCount_0f7a4_23 : decode cJ6_bitCount_0f7a4 23 = .ok (.istore_n 0, 1) := by decide +kernel
theorem dJ6_bitCount_0f7a4_24 : decode cJ6_bitCount_0f7a4 24 = .ok (.iload_n 0, 1) := by decide +kernel
theorem dJ6_bitCount_0f7a4_25 : decode cJ6_bitCount_0f7a4 25 = .ok (.iload_n 0, 1) := by decide +kernel
theorem dJ6_bitCount_0f7a4_26 : decode cJ6_bitCount_0f7a4 26 = .ok (.iconst 4, 1) := by decide +kernel
theorem dJ6_bitCount_0f7a4_27 : decode cJ6_bitCount_0f7a4 27 = .ok (.iushr, 1) := by decide +kernel
theorem dJ6_bitCount_0f7a4_28 : decode cJ6_bitCount_0f7a4 28 = .ok (.iadd, 1) := by decide +kernel
theorem dJ6_bitCount_0f7a4_29 : decode cJ6_bitCount_0f7a4 29 = .ok (.ldc_w 267, 3) := by decide +kernel
theorem dJ6_bitCount_0f7a4_32 : decode cJ6_bitCount_0f7a4 32 = .ok (.iand, 1) := by decide +kernel
theorem dJ6_bitCount_0f7a4_33 : decode cJ6_bitCount_0f7a4 33 = .ok (.istore_n 0, 1) := by decide +kernel
theorem dJ6_bitCount_0f7a4_34 : decode cJ6_bitCount_0f7a4 34 = .ok (.iload_n 0, 1) := by decide +kernel
theorem dJ6_bitCount_0f7a4_35 : decode cJ6_bitCount_0f7a4 35 = .ok (.iload_n 0, 1) := by decide +kernel
theorem dJ6_bitCount_0f7a4_36 : decode cJ6_bitCount_0f7a4 36 = .ok (.bipush 8, 2) := by decide +kernel
theorem dJ6_bitCount_0f7a4_38 : decode cJ6_bitCount_0f7a4 38 = .ok (.iushr, 1) := by decide +kernel
theorem dJ6_bitCount_0f7a4_39 : decode cJ6_bitCount_0f7a4 39 = .ok (.iadd, 1) := by decide +kernel
theorem dJ6_bitCount_0f7a4_40 : decode cJ6_bitCount_0f7a4 40 = .ok (.istore_n 0, 1) := by decide +kernel
theorem dJ6_bitCount_0f7a4_41 : decode cJ6_bitCount_0f7a4 41 = .ok (.iload_n 0, 1) := by decide +kernel
theorem dJ6_bitCount_0f7a4_42 : decode cJ6_bitCount_0f7a4 42 = .ok (.iload_n 0, 1) := by decide +kernel
theorem dJ6_bitCount_0f7a4_43 : decode cJ6_bitCount_0f7a4 43 = .ok (.bipush 16, 2) := by decide +kernel
theorem dJ6_bitCount_0f7a4_45 : decode cJ6_bitCount_0f7a4 45 = .ok (.iushr, 1) := by decide +kernel
theorem dJ6_bitCount_0f7a4_46 : decode cJ6_bitCount_0f7a4 46 = .ok (.iadd, 1) := by decide +kernel
theorem dJ6_bitCount_0f7a4_47 : decode cJ6_bitCount_0f7a4 47 = .ok (.istore_n 0, 1) := by decide +kernel
theorem dJ6_bitCount_0f7a4_48 : decode cJ6_bitCount_0f7a4 48 = .ok (.iload_n 0, 1) := by decide +kernel
theorem dJ6_bitCount_0f7a4_49 : decode cJ6_bitCount_0f7a4 49 = .ok (.bipush 63, 2) := by decide +kernel
theorem dJ6_bitCount_0f7a4_51 : decode cJ6_bitCount_0f7a4 51 = .ok (.iand, 1) := by decide +kernel
theorem dJ6_bitCount_0f7a4_52 : decode cJ6_bitCount_0f7a4 52 = .ok (.ireturn, 1) := by decide +kernel
theorem dJ9_abs_0f7a4_0 : decode cJ9_abs_0f7a4 0 = .ok (.iload_n 0, 1) := by decide +kernel
theorem dJ9_abs_0f7a4_1 : decode cJ9_abs_0f7a4 1 = .ok (.ifCond .ge 8, 3) := by decide +kernel
theorem dJ9_abs_0f7a4_4 : decode cJ9_abs_0f7a4 4 = .ok (.iload_n 0, 1) := by decide +kernel
theorem dJ9_abs_0f7a4_5 : decode cJ9_abs_0f7a4 5 = .ok (.ineg, 1) := by decide +kernel
theorem dJ9_abs_0f7a4_6 : decode cJ9_abs_0f7a4 6 = .ok (.goto 4, 3) := by decide +kernel
theorem dJ9_abs_0f7a4_9 : decode cJ9_abs_0f7a4 9 = .ok (.iload_n 0, 1) := by decide +kernel
theorem dJ9_abs_0f7a4_10 : decode cJ9_abs_0f7a4 10 = .ok (.ireturn, 1) := by decide +kernel
theorem dJ9_max_7cf53_0 : decode cJ9_max_7cf53 0 = .ok (.iload_n 0, 1) := by decide +kernel
theorem dJ9_max_7cf53_1 : decode cJ9_max_7cf53 1 = .ok (.iload_n 1, 1) := by decide +kernel
theorem dJ9_max_7cf53_2 : decode cJ9_max_7cf53 2 = .ok (.if_icmp .lt 7, 3) := by decide +kernel
theorem dJ9_max_7cf53_5 : decode cJ9_max_7cf53 5 = .ok (.iload_n 0, 1) := by decide +kernel
theorem dJ9_max_7cf53_6 : decode cJ9_max_7cf53 6 = .ok (.goto 4, 3) := by decide +kernel
theorem dJ9_max_7cf53_9 : decode cJ9_max_7cf53 9 = .ok (.iload_n 1, 1) := by decide +kernel
theorem dJ9_max_7cf53_10 : decode cJ9_max_7cf53 10 = .ok (.ireturn, 1) := by decide +kernel
theorem dJ9_min_7cf53_0 : decode cJ9_min_7cf53 0 = .ok (.iload_n 0, 1) := by decide +kernel
theorem dJ9_min_7cf53_1 : decode cJ9_min_7cf53 1 = .ok (.iload_n 1, 1) := by decide +kernel
theorem dJ9_min_7cf53_2 : decode cJ9_min_7cf53 2 = .ok (.if_icmp .gt 7, 3) := by decide +kernel
theorem dJ9_min_7cf53_5 : decode cJ9_min_7cf53 5 = .ok (.iload_n 0, 1) := by decide +kernel
theorem dJ9_min_7cf53_6 : decode cJ9_min_7cf53 6 = .ok (.goto 4, 3) := by decide +kernel
theorem dJ9_min_7cf53_9 : decode cJ9_min_7cf53 9 = .ok (.iload_n 1, 1) := by decide +kernel
theorem dJ9_min_7cf53_10 : decode cJ9_min_7cf53 10 = .ok (.ireturn, 1) := by decide +kernel
theorem dJ0_charAt_5068e_0 : decode cJ0_charAt_5068e 0 = .ok (.aload_n 0, 1) := by decide +kernel
theorem dJ0_charAt_5068e_1 : decode cJ0_charAt_5068e 1 = .ok (.invokevirtual 492, 3) := by decide +kernel
theorem dJ0_charAt_5068e_4 : decode cJ0_charAt_5068e 4 = .ok (.ifCond .eq 12, 3) := by decide +kernel
theorem dJ0_charAt_5068e_7 : decode cJ0_charAt_5068e 7 = .ok (.aload_n 0, 1) := by decide +kernel
theorem dJ0_charAt_5068e_8 : decode cJ0_charAt_5068e 8 = .ok (.getfield 9, 3) := by decide +kernel
theorem dJ0_charAt_5068e_11 : decode cJ0_charAt_5068e 11 = .ok (.iload_n 1, 1) := by decide +kernel
theorem dJ0_charAt_5068e_12 : decode cJ0_charAt_5068e 12 = .ok (.invokestatic 495, 3) := by decide +kernel
theorem dJ0_charAt_5068e_15 : decode cJ0_charAt_5068e 15 = .ok (.ireturn, 1) := by decide +kernel
theorem dJ0_charAt_5068e_16 : decode cJ0_charAt_5068e 16 = .ok (.aload_n 0, 1) := by decide +kernel
theorem dJ0_charAt_5068e_17 : decode cJ0_charAt_5068e 17 = .ok (.getfield 9, 3) := by decide +kernel
theorem dJ0_charAt_5068e_20 : decode cJ0_charAt_5068e 20 = .ok (.iload_n 1, 1) := by decide +kernel
theorem dJ0_charAt_5068e_21 : decode cJ0_charAt_5068e 21 = .ok (.invokestatic 498, 3) := by decide +kernel
theorem dJ0_charAt_5068e_24 : decode cJ0_charAt_5068e 24 = .ok (.ireturn, 1) := by decide +kernel
theorem dJ0_isLatin1_aae02_0 : decode cJ0_isLatin1_aae02 0 = .ok (.getstatic 38, 3) := by decide +kernel
theorem dJ0_isLatin1_aae02_3 : decode cJ0_isLatin1_aae02 3 = .ok (.ifCond .eq 14, 3) := by decide +kernel
theorem dJ0_isLatin1_aae02_6 : decode cJ0_isLatin1_aae02 6 = .ok (.aload_n 0, 1) := by decide +kernel
theorem dJ0_isLatin1_aae02_7 : decode cJ0_isLatin1_aae02 7 = .ok (.getfield 15, 3) := by decide +kernel
theorem dJ0_isLatin1_aae02_10 : decode cJ0_isLatin1_aae02 10 = .ok (.ifCond .ne 7, 3) := by decide +kernel
theorem dJ0_isLatin1_aae02_13 : decode cJ0_isLatin1_aae02 13 = .ok (.iconst 1, 1) := by decide +kernel
theorem dJ0_isLatin1_aae02_14 : decode cJ0_isLatin1_aae02 14 = .ok (.goto 4, 3) := by decide +kernel
theorem dJ0_isLatin1_aae02_17 : decode cJ0_isLatin1_aae02 17 = .ok (.iconst 0, 1) := by decide +kernel
theorem dJ0_isLatin1_aae02_18 : decode cJ0_isLatin1_aae02 18 = .ok (.ireturn, 1) := by decide +kernel
theorem dJ0_checkIndex_df160_0 : decode cJ0_checkIndex_df160 0 = .ok (.iload_n 0, 1) := by decide +kernel
theorem dJ0_checkIndex_df160_1 : decode cJ0_checkIndex_df160 1 = .ok (.iload_n 1, 1) := by decide +kernel
theorem dJ0_checkIndex_df160_2 : decode cJ0_checkIndex_df160 2 = .ok (.getstatic 1053, 3) := by decide +kernel
theorem dJ0_checkIndex_df160_5 : decode cJ0_checkIndex_df160 5 = .ok (.invokestatic 1059, 3) := by decide +kernel
theorem dJ0_checkIndex_df160_8 : decode cJ0_checkIndex_df160 8 = .ok (.pop, 1) := by decide +kernel
theorem dJ0_checkIndex_df160_9 : decode cJ0_checkIndex_df160 9 = .ok (.return_, 1) := by decide +kernel
theorem dJ1_charAt_3b067_0 : decode cJ1_charAt_3b067 0 = .ok (.iload_n 1, 1) := by decide +kernel
theorem dJ1_charAt_3b067_1 : decode cJ1_charAt_3b067 1 = .ok (.aload_n 0, 1) := by decide +kernel
theorem dJ1_charAt_3b067_2 : decode cJ1_charAt_3b067 2 = .ok (.arraylength, 1) := by decide +kernel
theorem dJ1_charAt_3b067_3 : decode cJ1_charAt_3b067 3 = .ok (.invokestatic 9, 3) := by decide +kernel
theorem dJ1_charAt_3b067_6 : decode cJ1_charAt_3b067 6 = .ok (.aload_n 0, 1) := by decide +kernel
theorem dJ1_charAt_3b067_7 : decode cJ1_charAt_3b067 7 = .ok (.iload_n 1, 1) := by decide +kernel
theorem dJ1_charAt_3b067_8 : decode cJ1_charAt_3b067 8 = .ok (.baload, 1) := by decide +kernel
theorem dJ1_charAt_3b067_9 : decode cJ1_charAt_3b067 9 = .ok (.sipush 255, 3) := by decide +kernel
theorem dJ1_charAt_3b067_12 : decode cJ1_charAt_3b067 12 = .ok (.iand, 1) := by decide +kernel
theorem dJ1_charAt_3b067_13 : decode cJ1_charAt_3b067 13 = .ok (.i2c, 1) := by decide +kernel
theorem dJ1_charAt_3b067_14 : decode cJ1_charAt_3b067 14 = .ok (.ireturn, 1) := by decide +kernel
theorem dJ2_getChar_3b067_0 : decode cJ2_getChar_3b067 0 = .ok (.getstatic 44, 3) := by decide +kernel
theorem dJ2_getChar_3b067_3 : decode cJ2_getChar_3b067 3 = .ok (.ifCond .ne 25, 3) := by decide +kernel
theorem dJ2_getChar_3b067_6 : decode cJ2_getChar_3b067 6 = .ok (.iload_n 1, 1) := by decide +kernel
theorem dJ2_getChar_3b067_7 : decode cJ2_getChar_3b067 7 = .ok (.ifCond .lt 11, 3) := by decide +kernel
theorem dJ2_getChar_3b067_10 : decode cJ2_getChar_3b067 10 = .ok (.iload_n 1, 1) := by decide +kernel
theorem dJ2_getChar_3b067_11 : decode cJ2_getChar_3b067 11 = .ok (.aload_n 0, 1) := by decide +kernel
theorem dJ2_getChar_3b067_12 : decode cJ2_getChar_3b067 12 = .ok (.invokestatic 48, 3) := by decide +kernel
theorem dJ2_getChar_3b067_15 : decode cJ2_getChar_3b067 15 = .ok (.if_icmp .lt 13, 3) := by decide +kernel
theorem dJ2_getChar_3b067_18 : decode cJ2_getChar_3b067 18 = .ok (.new 52, 3) := by decide +kernel
theorem dJ2_getChar_3b067_21 : decode cJ2_getChar_3b067 21 = .ok (.dup, 1) := by decide +kernel
theorem dJ2_getChar_3b067_22 : decode cJ2_getChar_3b067 22 = .ok (.ldc 54, 2) := by decide +kernel
theorem dJ2_getChar_3b067_24 : decode cJ2_getChar_3b067 24 = .ok (.invokespecial 56, 3) := by decide +kernel
theorem dJ2_getChar_3b067_27 : decode cJ2_getChar_3b067 27 = .ok (.athrow, 1) := by decide +kernel
theorem dJ2_getChar_3b067_28 : decode cJ2_getChar_3b067 28 = .ok (.iload_n 1, 1) := by decide +kernel
theorem dJ2_getChar_3b067_29 : decode cJ2_getChar_3b067 29 = .ok (.iconst 1, 1) := by decide +kernel
theorem dJ2_getChar_3b067_30 : decode cJ2_getChar_3b067 30 = .ok (.ishl, 1) := by decide +kernel
theorem dJ2_getChar_3b067_31 : decode cJ2_getChar_3b067 31 = .ok (.istore_n 1, 1) := by decide +kernel
theorem dJ2_getChar_3b067_32 : decode cJ2_getChar_3b067 32 = .ok (.aload_n 0, 1) := by decide +kernel
theorem dJ2_getChar_3b067_33 : decode cJ2_getChar_3b067 33 = .ok (.iload_n 1, 1) := by decide +kernel
theorem dJ2_getChar_3b067_34 : decode cJ2_getChar_3b067 34 = .ok (.iinc 1 1, 3) := by decide +kernel
theorem dJ2_getChar_3b067_37 : decode cJ2_getChar_3b067 37 = .ok (.baload, 1) := by decide +kernel
theorem dJ2_getChar_3b067_38 : decode cJ2_getChar_3b067 38 = .ok (.sipush 255, 3) := by decide +kernel
theorem dJ2_getChar_3b067_41 : decode cJ2_getChar_3b067 41 = .ok (.iand, 1) := by decide +kernel
theorem dJ2_getChar_3b067_42 : decode cJ2_getChar_3b067 42 = .ok (.getstatic 59, 3) := by decide +kernel
theorem dJ2_getChar_3b067_45 : decode cJ2_getChar_3b067 45 = .ok (.ishl, 1) := by decide +kernel
theorem dJ2_getChar_3b067_46 : decode cJ2_getChar_3b067 46 = .ok (.aload_n 0, 1) := by decide +kernel
theorem dJ2_getChar_3b067_47 : decode cJ2_getChar_3b067 47 = .ok (.iload_n 1, 1) := by decide +kernel
theorem dJ2_getChar_3b067_48 : decode cJ2_getChar_3b067 48 = .ok (.baload, 1) := by decide +kernel
theorem dJ2_getChar_3b067_49 : decode cJ2_getChar_3b067 49 = .ok (.sipush 255, 3) := by decide +kernel
theorem dJ2_getChar_3b067_52 : decode cJ2_getChar_3b067 52 = .ok (.iand, 1) := by decide +kernel
theorem dJ2_getChar_3b067_53 : decode cJ2_getChar_3b067 53 = .ok (.getstatic 63, 3) := by decide +kernel
theorem dJ2_getChar_3b067_56 : decode cJ2_getChar_3b067 56 = .ok (.ishl, 1) := by decide +kernel
theorem dJ2_getChar_3b067_57 : decode cJ2_getChar_3b067 57 = .ok (.ior, 1) := by decide +kernel
theorem dJ2_getChar_3b067_58 : decode cJ2_getChar_3b067 58 = .ok (.i2c, 1) := by decide +kernel
theorem dJ2_getChar_3b067_59 : decode cJ2_getChar_3b067 59 = .ok (.ireturn, 1) := by decide +kernel
theorem dJ2_length_9d52b_0 : decode cJ2_length_9d52b 0 = .ok (.aload_n 0, 1) := by decide +kernel
theorem dJ2_length_9d52b_1 : decode cJ2_length_9d52b 1 = .ok (.arraylength, 1) := by decide +kernel
theorem dJ2_length_9d52b_2 : decode cJ2_length_9d52b 2 = .ok (.iconst 1, 1) := by decide +kernel
theorem dJ2_length_9d52b_3 : decode cJ2_length_9d52b 3 = .ok (.ishr, 1) := by decide +kernel
theorem dJ2_length_9d52b_4 : decode cJ2_length_9d52b 4 = .ok (.ireturn, 1) := by decide +kernel
theorem dJ2_charAt_3b067_0 : decode cJ2_charAt_3b067 0 = .ok (.iload_n 1, 1) := by decide +kernel
theorem dJ2_charAt_3b067_1 : decode cJ2_charAt_3b067 1 = .ok (.aload_n 0, 1) := by decide +kernel
theorem dJ2_charAt_3b067_2 : decode cJ2_charAt_3b067 2 = .ok (.invokestatic 67, 3) := by decide +kernel
theorem dJ2_charAt_3b067_5 : decode cJ2_charAt_3b067 5 = .ok (.aload_n 0, 1) := by decide +kernel
theorem dJ2_charAt_3b067_6 : decode cJ2_charAt_3b067 6 = .ok (.iload_n 1, 1) := by decide +kernel
theorem dJ2_charAt_3b067_7 : decode cJ2_charAt_3b067 7 = .ok (.invokestatic 71, 3) := by decide +kernel
theorem dJ2_charAt_3b067_10 : decode cJ2_charAt_3b067 10 = .ok (.ireturn, 1) := by decide +kernel
theorem dJ2_checkIndex_2214a_0 : decode cJ2_checkIndex_2214a 0 = .ok (.iload_n 0, 1) := by decide +kernel
theorem dJ2_checkIndex_2214a_1 : decode cJ2_checkIndex_2214a 1 = .ok (.aload_n 1, 1) := by decide +kernel
theorem dJ2_checkIndex_2214a_2 : decode cJ2_checkIndex_2214a 2 = .ok (.invokestatic 48, 3) := by decide +kernel
theorem dJ2_checkIndex_2214a_5 : decode cJ2_checkIndex_2214a 5 = .ok (.invokestatic 414, 3) := by decide +kernel
theorem dJ2_checkIndex_2214a_8 : decode cJ2_checkIndex_2214a 8 = .ok (.return_, 1) := by decide +kernel
theorem dJ7_fill_d0a16_0 : decode cJ7_fill_d0a16 0 = .ok (.iconst 0, 1) := by decide +kernel
theorem dJ7_fill_d0a16_1 : decode cJ7_fill_d0a16 1 = .ok (.istore_n 3, 1) := by decide +kernel
theorem dJ7_fill_d0a16_2 : decode cJ7_fill_d0a16 2 = .ok (.aload_n 0, 1) := by decide +kernel
theorem dJ7_fill_d0a16_3 : decode cJ7_fill_d0a16 3 = .ok (.arraylength, 1) := by decide +kernel
theorem dJ7_fill_d0a16_4 : decode cJ7_fill_d0a16 4 = .ok (.istore 4, 2) := by decide +kernel
theorem dJ7_fill_d0a16_6 : decode cJ7_fill_d0a16 6 = .ok (.iload_n 3, 1) := by decide +kernel
theorem dJ7_fill_d0a16_7 : decode cJ7_fill_d0a16 7 = .ok (.iload 4, 2) := by decide +kernel
theorem dJ7_fill_d0a16_9 : decode cJ7_fill_d0a16 9 = .ok (.if_icmp .ge 13, 3) := by decide +kernel
theorem dJ7_fill_d0a16_12 : decode cJ7_fill_d0a16 12 = .ok (.aload_n 0, 1) := by decide +kernel
theorem dJ7_fill_d0a16_13 : decode cJ7_fill_d0a16 13 = .ok (.iload_n 3, 1) := by decide +kernel
theorem dJ7_fill_d0a16_14 : decode cJ7_fill_d0a16 14 = .ok (.lload_n 1, 1) := by decide +kernel
theorem dJ7_fill_d0a16_15 : decode cJ7_fill_d0a16 15 = .ok (.lastore, 1) := by decide +kernel
theorem dJ7_fill_d0a16_16 : decode cJ7_fill_d0a16 16 = .ok (.iinc 3 1, 3) := by decide +kernel
theorem dJ7_fill_d0a16_19 : decode cJ7_fill_d0a16 19 = .ok (.goto (-13), 3) := by decide +kernel
theorem dJ7_fill_d0a16_22 : decode cJ7_fill_d0a16 22 = .ok (.return_, 1) := by decide +kernel
theorem dJ7_fill_53178_0 : decode cJ7_fill_53178 0 = .ok (.iconst 0, 1) := by decide +kernel
theorem dJ7_fill_53178_1 : decode cJ7_fill_53178 1 = .ok (.istore_n 2, 1) := by decide +kernel
theorem dJ7_fill_53178_2 : decode cJ7_fill_53178 2 = .ok (.aload_n 0, 1) := by decide +kernel
theorem dJ7_fill_53178_3 : decode cJ7_fill_53178 3 = .ok (.arraylength, 1) := by decide +kernel
theorem dJ7_fill_53178_4 : decode cJ7_fill_53178 4 = .ok (.istore_n 3, 1) := by decide +kernel
theorem dJ7_fill_53178_5 : decode cJ7_fill_53178 5 = .ok (.iload_n 2, 1) := by decide +kernel
theorem dJ7_fill_53178_6 : decode cJ7_fill_53178 6 = .ok (.iload_n 3, 1) := by decide +kernel
theorem dJ7_fill_53178_7 : decode cJ7_fill_53178 7 = .ok (.if_icmp .ge 13, 3) := by decide +kernel
theorem dJ7_fill_53178_10 : decode cJ7_fill_53178 10 = .ok (.aload_n 0, 1) := by decide +kernel
theorem dJ7_fill_53178_11 : decode cJ7_fill_53178 11 = .ok (.iload_n 2, 1) := by decide +kernel
theorem dJ7_fill_53178_12 : decode cJ7_fill_53178 12 = .ok (.iload_n 1, 1) := by decide +kernel
theorem dJ7_fill_53178_13 : decode cJ7_fill_53178 13 = .ok (.iastore, 1) := by decide +kernel
theorem dJ7_fill_53178_14 : decode cJ7_fill_53178 14 = .ok (.iinc 2 1, 3) := by decide +kernel
theorem dJ7_fill_53178_17 : decode cJ7_fill_53178 17 = .ok (.goto (-12), 3) := by decide +kernel
theorem dJ7_fill_53178_20 : decode cJ7_fill_53178 20 = .ok (.return_, 1) := by decide +kernel
theorem dJ7_copyOf_59c91_0 : decode cJ7_copyOf_59c91 0 = .ok (.iload_n 1, 1) := by decide +kernel
theorem dJ7_copyOf_59c91_1 : decode cJ7_copyOf_59c91 1 = .ok (.aload_n 0, 1) := by decide +kernel
theorem dJ7_copyOf_59c91_2 : decode cJ7_copyOf_59c91 2 = .ok (.arraylength, 1) := by decide +kernel
theorem dJ7_copyOf_59c91_3 : decode cJ7_copyOf_59c91 3 = .ok (.if_icmp .ne 11, 3) := by decide +kernel
theorem dJ7_copyOf_59c91_6 : decode cJ7_copyOf_59c91 6 = .ok (.aload_n 0, 1) := by decide +kernel
theorem dJ7_copyOf_59c91_7 : decode cJ7_copyOf_59c91 7 = .ok (.invokevirtual 316, 3) := by decide +kernel
theorem dJ7_copyOf_59c91_10 : decode cJ7_copyOf_59c91 10 = .ok (.checkcast 317, 3) := by decide +kernel
theorem dJ7_copyOf_59c91_13 : decode cJ7_copyOf_59c91 13 = .ok (.areturn, 1) := by decide +kernel
theorem dJ7_copyOf_59c91_14 : decode cJ7_copyOf_59c91 14 = .ok (.iload_n 1, 1) := by decide +kernel
theorem dJ7_copyOf_59c91_15 : decode cJ7_copyOf_59c91 15 = .ok (.newarray .int, 2) := by decide +kernel
theorem dJ7_copyOf_59c91_17 : decode cJ7_copyOf_59c91 17 = .ok (.astore_n 2, 1) := by decide +kernel
theorem dJ7_copyOf_59c91_18 : decode cJ7_copyOf_59c91 18 = .ok (.aload_n 0, 1) := by decide +kernel
theorem dJ7_copyOf_59c91_19 : decode cJ7_copyOf_59c91 19 = .ok (.iconst 0, 1) := by decide +kernel
theorem dJ7_copyOf_59c91_20 : decode cJ7_copyOf_59c91 20 = .ok (.aload_n 2, 1) := by decide +kernel
theorem dJ7_copyOf_59c91_21 : decode cJ7_copyOf_59c91 21 = .ok (.iconst 0, 1) := by decide +kernel
theorem dJ7_copyOf_59c91_22 : decode cJ7_copyOf_59c91 22 = .ok (.aload_n 0, 1) := by decide +kernel
theorem dJ7_copyOf_59c91_23 : decode cJ7_copyOf_59c91 23 = .ok (.arraylength, 1) := by decide +kernel
theorem dJ7_copyOf_59c91_24 : decode cJ7_copyOf_59c91 24 = .ok (.iload_n 1, 1) := by decide +kernel
theorem dJ7_copyOf_59c91_25 : decode cJ7_copyOf_59c91 25 = .ok (.invokestatic 304, 3) := by decide +kernel
theorem dJ7_copyOf_59c91_28 : decode cJ7_copyOf_59c91 28 = .ok (.invokestatic 150, 3) := by decide +kernel
theorem dJ7_copyOf_59c91_31 : decode cJ7_copyOf_59c91 31 = .ok (.aload_n 2, 1) := by decide +kernel
theorem dJ7_copyOf_59c91_32 : decode cJ7_copyOf_59c91 32 = .ok (.areturn, 1) := by decide +kernel
theorem dJ3_checkIndex_8e157_0 : decode cJ3_checkIndex_8e157 0 = .ok (.iload_n 0, 1) := by decide +kernel
theorem dJ3_checkIndex_8e157_1 : decode cJ3_checkIndex_8e157 1 = .ok (.ifCond .lt 8, 3) := by decide +kernel
theorem dJ3_checkIndex_8e157_4 : decode cJ3_checkIndex_8e157 4 = .ok (.iload_n 0, 1) := by decide +kernel
theorem dJ3_checkIndex_8e157_5 : decode cJ3_checkIndex_8e157 5 = .ok (.iload_n 1, 1) := by decide +kernel
theorem dJ3_checkIndex_8e157_6 : decode cJ3_checkIndex_8e157 6 = .ok (.if_icmp .lt 10, 3) := by decide +kernel
theorem dJ3_checkIndex_8e157_9 : decode cJ3_checkIndex_8e157 9 = .ok (.aload_n 2, 1) := by decide +kernel
theorem dJ3_checkIndex_8e157_10 : decode cJ3_checkIndex_8e157 10 = .ok (.iload_n 0, 1) := by decide +kernel
theorem dJ3_checkIndex_8e157_11 : decode cJ3_checkIndex_8e157 11 = .ok (.iload_n 1, 1) := by decide +kernel
theorem dJ3_checkIndex_8e157_12 : decode cJ3_checkIndex_8e157 12 = .ok (.invokestatic 95, 3) := by decide +kernel
theorem dJ3_checkIndex_8e157_15 : decode cJ3_checkIndex_8e157 15 = .ok (.athrow, 1) := by decide +kernel
theorem dJ3_checkIndex_8e157_16 : decode cJ3_checkIndex_8e157 16 = .ok (.iload_n 0, 1) := by decide +kernel
theorem dJ3_checkIndex_8e157_17 : decode cJ3_checkIndex_8e157 17 = .ok (.ireturn, 1) := by decide +kernel
theorem dL_law_0 : decode cL_law 0 = .ok (.new 7, 3) := by decide +kernel
theorem dL_law_3 : decode cL_law 3 = .ok (.dup, 1) := by decide +kernel
theorem dL_law_4 : decode cL_law 4 = .ok (.invokespecial 9, 3) := by decide +kernel
theorem dL_law_7 : decode cL_law 7 = .ok (.astore_n 1, 1) := by decide +kernel
theorem dL_law_8 : decode cL_law 8 = .ok (.new 10, 3) := by decide +kernel
theorem dL_law_11 : decode cL_law 11 = .ok (.dup, 1) := by decide +kernel
theorem dL_law_12 : decode cL_law 12 = .ok (.invokespecial 12, 3) := by decide +kernel
theorem dL_law_15 : decode cL_law 15 = .ok (.astore_n 2, 1) := by decide +kernel
theorem dL_law_16 : decode cL_law 16 = .ok (.iconst 0, 1) := by decide +kernel
theorem dL_law_17 : decode cL_law 17 = .ok (.istore_n 3, 1) := by decide +kernel
theorem dL_law_18 : decode cL_law 18 = .ok (.iload_n 3, 1) := by decide +kernel
theorem dL_law_19 : decode cL_law 19 = .ok (.aload_n 0, 1) := by decide +kernel
theorem dL_law_20 : decode cL_law 20 = .ok (.arraylength, 1) := by decide +kernel
theorem dL_law_21 : decode cL_law 21 = .ok (.bipush 6, 2) := by decide +kernel
theorem dL_law_23 : decode cL_law 23 = .ok (.isub, 1) := by decide +kernel
theorem dL_law_24 : decode cL_law 24 = .ok (.if_icmp .gt 1283, 3) := by decide +kernel
theorem dL_law_27 : decode cL_law 27 = .ok (.aload_n 0, 1) := by decide +kernel
theorem dL_law_28 : decode cL_law 28 = .ok (.iload_n 3, 1) := by decide +kernel
theorem dL_law_29 : decode cL_law 29 = .ok (.iaload, 1) := by decide +kernel
theorem dL_law_30 : decode cL_law 30 = .ok (.bipush 63, 2) := by decide +kernel
theorem dL_law_32 : decode cL_law 32 = .ok (.iand, 1) := by decide +kernel
theorem dL_law_33 : decode cL_law 33 = .ok (.tableswitch 1268 0 34 #[155, 198, 257, 290, 313, 356, 379, 442, 465, 488, 501, 524, 547, 580, 613, 646, 699, 732, 775, 808, 841, 874, 908, 942, 955, 998, 1031, 1064, 1087, 1120, 1153, 1186, 1209, 1222, 1245], 155) := by decide +kernel
theorem dL_law_188 : decode cL_law 188 = .ok (.aload_n 1, 1) := by decide +kernel
theorem dL_law_189 : decode cL_law 189 = .ok (.aload_n 0, 1) := by decide +kernel
theorem dL_law_190 : decode cL_law 190 = .ok (.iload_n 3, 1) := by decide +kernel
theorem dL_law_191 : decode cL_law 191 = .ok (.iconst 1, 1) := by decide +kernel
theorem dL_law_192 : decode cL_law 192 = .ok (.iadd, 1) := by decide +kernel
theorem dL_law_193 : decode cL_law 193 = .ok (.iaload, 1) := by decide +kernel
theorem dL_law_194 : decode cL_law 194 = .ok (.aload_n 0, 1) := by decide +kernel
theorem dL_law_195 : decode cL_law 195 = .ok (.iload_n 3, 1) := by decide +kernel
theorem dL_law_196 : decode cL_law 196 = .ok (.iconst 2, 1) := by decide +kernel
theorem dL_law_197 : decode cL_law 197 = .ok (.iadd, 1) := by decide +kernel
theorem dL_law_198 : decode cL_law 198 = .ok (.iaload, 1) := by decide +kernel
theorem dL_law_199 : decode cL_law 199 = .ok (.aload_n 0, 1) := by decide +kernel
theorem dL_law_200 : decode cL_law 200 = .ok (.iload_n 3, 1) := by decide +kernel
theorem dL_law_201 : decode cL_law 201 = .ok (.iconst 3, 1) := by decide +kernel
theorem dL_law_202 : decode cL_law 202 = .ok (.iadd, 1) := by decide +kernel
theorem dL_law_203 : decode cL_law 203 = .ok (.iaload, 1) := by decide +kernel
theorem dL_law_204 : decode cL_law 204 = .ok (.invokevirtual 13, 3) := by decide +kernel
theorem dL_law_207 : decode cL_law 207 = .ok (.aload_n 2, 1) := by decide +kernel
theorem dL_law_208 : decode cL_law 208 = .ok (.aload_n 0, 1) := by decide +kernel
theorem dL_law_209 : decode cL_law 209 = .ok (.iload_n 3, 1) := by decide +kernel
theorem dL_law_210 : decode cL_law 210 = .ok (.iconst 1, 1) := by decide +kernel
theorem dL_law_211 : decode cL_law 211 = .ok (.iadd, 1) := by decide +kernel
theorem dL_law_212 : decode cL_law 212 = .ok (.iaload, 1) := by decide +kernel
theorem dL_law_213 : decode cL_law 213 = .ok (.aload_n 0, 1) := by decide +kernel
theorem dL_law_214 : decode cL_law 214 = .ok (.iload_n 3, 1) := by decide +kernel
theorem dL_law_215 : decode cL_law 215 = .ok (.iconst 2, 1) := by decide +kernel
theorem dL_law_216 : decode cL_law 216 = .ok (.iadd, 1) := by decide +kernel
theorem dL_law_217 : decode cL_law 217 = .ok (.iaload, 1) := by decide +kernel
theorem dL_law_218 : decode cL_law 218 = .ok (.aload_n 0, 1) := by decide +kernel
theorem dL_law_219 : decode cL_law 219 = .ok (.iload_n 3, 1) := by decide +kernel
theorem dL_law_220 : decode cL_law 220 = .ok (.iconst 3, 1) := by decide +kernel
theorem dL_law_221 : decode cL_law 221 = .ok (.iadd, 1) := by decide +kernel
theorem dL_law_222 : decode cL_law 222 = .ok (.iaload, 1) := by decide +kernel
theorem dL_law_223 : decode cL_law 223 = .ok (.invokevirtual 17, 3) := by decide +kernel
theorem dL_law_226 : decode cL_law 226 = .ok (.if_icmp .eq 1075, 3) := by decide +kernel
theorem dL_law_229 : decode cL_law 229 = .ok (.iconst 0, 1) := by decide +kernel
theorem dL_law_230 : decode cL_law 230 = .ok (.ireturn, 1) := by decide +kernel
theorem dL_law_231 : decode cL_law 231 = .ok (.aload_n 1, 1) := by decide +kernel
theorem dL_law_232 : decode cL_law 232 = .ok (.aload_n 0, 1) := by decide +kernel
theorem dL_law_233 : decode cL_law 233 = .ok (.iload_n 3, 1) := by decide +kernel
theorem dL_law_234 : decode cL_law 234 = .ok (.iconst 1, 1) := by decide +kernel
theorem dL_law_235 : decode cL_law 235 = .ok (.iadd, 1) := by decide +kernel
theorem dL_law_236 : decode cL_law 236 = .ok (.iaload, 1) := by decide +kernel
theorem dL_law_237 : decode cL_law 237 = .ok (.aload_n 0, 1) := by decide +kernel
theorem dL_law_238 : decode cL_law 238 = .ok (.iload_n 3, 1) := by decide +kernel
theorem dL_law_239 : decode cL_law 239 = .ok (.iconst 2, 1) := by decide +kernel
theorem dL_law_240 : decode cL_law 240 = .ok (.iadd, 1) := by decide +kernel
theorem dL_law_241 : decode cL_law 241 = .ok (.iaload, 1) := by decide +kernel
theorem dL_law_242 : decode cL_law 242 = .ok (.aload_n 0, 1) := by decide +kernel
theorem dL_law_243 : decode cL_law 243 = .ok (.iload_n 3, 1) := by decide +kernel
theorem dL_law_244 : decode cL_law 244 = .ok (.iconst 3, 1) := by decide +kernel
theorem dL_law_245 : decode cL_law 245 = .ok (.iadd, 1) := by decide +kernel
theorem dL_law_246 : decode cL_law 246 = .ok (.iaload, 1) := by decide +kernel
theorem dL_law_247 : decode cL_law 247 = .ok (.ifCond .eq 7, 3) := by decide +kernel
theorem dL_law_250 : decode cL_law 250 = .ok (.iconst 1, 1) := by decide +kernel
theorem dL_law_251 : decode cL_law 251 = .ok (.goto 4, 3) := by decide +kernel
theorem dL_law_254 : decode cL_law 254 = .ok (.iconst 0, 1) := by decide +kernel
theorem dL_law_255 : decode cL_law 255 = .ok (.invokevirtual 18, 3) := by decide +kernel
theorem dL_law_258 : decode cL_law 258 = .ok (.aload_n 2, 1) := by decide +kernel
theorem dL_law_259 : decode cL_law 259 = .ok (.aload_n 0, 1) := by decide +kernel
theorem dL_law_260 : decode cL_law 260 = .ok (.iload_n 3, 1) := by decide +kernel
theorem dL_law_261 : decode cL_law 261 = .ok (.iconst 1, 1) := by decide +kernel
theorem dL_law_262 : decode cL_law 262 = .ok (.iadd, 1) := by decide +kernel
theorem dL_law_263 : decode cL_law 263 = .ok (.iaload, 1) := by decide +kernel
theorem dL_law_264 : decode cL_law 264 = .ok (.aload_n 0, 1) := by decide +kernel
theorem dL_law_265 : decode cL_law 265 = .ok (.iload_n 3, 1) := by decide +kernel
theorem dL_law_266 : decode cL_law 266 = .ok (.iconst 2, 1) := by decide +kernel
theorem dL_law_267 : decode cL_law 267 = .ok (.iadd, 1) := by decide +kernel
theorem dL_law_268 : decode cL_law 268 = .ok (.iaload, 1) := by decide +kernel
theorem dL_law_269 : decode cL_law 269 = .ok (.aload_n 0, 1) := by decide +kernel
theorem dL_law_270 : decode cL_law 270 = .ok (.iload_n 3, 1) := by decide +kernel
theorem dL_law_271 : decode cL_law 271 = .ok (.iconst 3, 1) := by decide +kernel
theorem dL_law_272 : decode cL_law 272 = .ok (.iadd, 1) := by decide +kernel
theorem dL_law_273 : decode cL_law 273 = .ok (.iaload, 1) := by decide +kernel
theorem dL_law_274 : decode cL_law 274 = .ok (.ifCond .eq 7, 3) := by decide +kernel
theorem dL_law_277 : decode cL_law 277 = .ok (.iconst 1, 1) := by decide +kernel
theorem dL_law_278 : decode cL_law 278 = .ok (.goto 4, 3) := by decide +kernel
theorem dL_law_281 : decode cL_law 281 = .ok (.iconst 0, 1) := by decide +kernel
theorem dL_law_282 : decode cL_law 282 = .ok (.invokevirtual 22, 3) := by decide +kernel
theorem dL_law_285 : decode cL_law 285 = .ok (.if_icmp .eq 1016, 3) := by decide +kernel
theorem dL_law_288 : decode cL_law 288 = .ok (.iconst 0, 1) := by decide +kernel
theorem dL_law_289 : decode cL_law 289 = .ok (.ireturn, 1) := by decide +kernel
theorem dL_law_290 : decode cL_law 290 = .ok (.aload_n 1, 1) := by decide +kernel
theorem dL_law_291 : decode cL_law 291 = .ok (.aload_n 0, 1) := by decide +kernel
theorem dL_law_292 : decode cL_law 292 = .ok (.iload_n 3, 1) := by decide +kernel
theorem dL_law_293 : decode cL_law 293 = .ok (.iconst 1, 1) := by decide +kernel
theorem dL_law_294 : decode cL_law 294 = .ok (.iadd, 1) := by decide +kernel
theorem dL_law_295 : decode cL_law 295 = .ok (.iaload, 1) := by decide +kernel
theorem dL_law_296 : decode cL_law 296 = .ok (.aload_n 0, 1) := by decide +kernel
theorem dL_law_297 : decode cL_law 297 = .ok (.iload_n 3, 1) := by decide +kernel
theorem dL_law_298 : decode cL_law 298 = .ok (.iconst 2, 1) := by decide +kernel
theorem dL_law_299 : decode cL_law 299 = .ok (.iadd, 1) := by decide +kernel
theorem dL_law_300 : decode cL_law 300 = .ok (.iaload, 1) := by decide +kernel
theorem dL_law_301 : decode cL_law 301 = .ok (.invokevirtual 23, 3) := by decide +kernel
theorem dL_law_304 : decode cL_law 304 = .ok (.aload_n 2, 1) := by decide +kernel
theorem dL_law_305 : decode cL_law 305 = .ok (.aload_n 0, 1) := by decide +kernel
theorem dL_law_306 : decode cL_law 306 = .ok (.iload_n 3, 1) := by decide +kernel
theorem dL_law_307 : decode cL_law 307 = .ok (.iconst 1, 1) := by decide +kernel
theorem dL_law_308 : decode cL_law 308 = .ok (.iadd, 1) := by decide +kernel
theorem dL_law_309 : decode cL_law 309 = .ok (.iaload, 1) := by decide +kernel
theorem dL_law_310 : decode cL_law 310 = .ok (.aload_n 0, 1) := by decide +kernel
theorem dL_law_311 : decode cL_law 311 = .ok (.iload_n 3, 1) := by decide +kernel
theorem dL_law_312 : decode cL_law 312 = .ok (.iconst 2, 1) := by decide +kernel
theorem dL_law_313 : decode cL_law 313 = .ok (.iadd, 1) := by decide +kernel
theorem dL_law_314 : decode cL_law 314 = .ok (.iaload, 1) := by decide +kernel
theorem dL_law_315 : decode cL_law 315 = .ok (.invokevirtual 27, 3) := by decide +kernel
theorem dL_law_318 : decode cL_law 318 = .ok (.if_icmp .eq 983, 3) := by decide +kernel
theorem dL_law_321 : decode cL_law 321 = .ok (.iconst 0, 1) := by decide +kernel
theorem dL_law_322 : decode cL_law 322 = .ok (.ireturn, 1) := by decide +kernel
theorem dL_law_323 : decode cL_law 323 = .ok (.aload_n 1, 1) := by decide +kernel
theorem dL_law_324 : decode cL_law 324 = .ok (.aload_n 0, 1) := by decide +kernel
theorem dL_law_325 : decode cL_law 325 = .ok (.iload_n 3, 1) := by decide +kernel
theorem dL_law_326 : decode cL_law 326 = .ok (.iconst 1, 1) := by decide +kernel
theorem dL_law_327 : decode cL_law 327 = .ok (.iadd, 1) := by decide +kernel
theorem dL_law_328 : decode cL_law 328 = .ok (.iaload, 1) := by decide +kernel
theorem dL_law_329 : decode cL_law 329 = .ok (.invokevirtual 28, 3) := by decide +kernel
theorem dL_law_332 : decode cL_law 332 = .ok (.aload_n 2, 1) := by decide +kernel
theorem dL_law_333 : decode cL_law 333 = .ok (.aload_n 0, 1) := by decide +kernel
theorem dL_law_334 : decode cL_law 334 = .ok (.iload_n 3, 1) := by decide +kernel
theorem dL_law_335 : decode cL_law 335 = .ok (.iconst 1, 1) := by decide +kernel
theorem dL_law_336 : decode cL_law 336 = .ok (.iadd, 1) := by decide +kernel
theorem dL_law_337 : decode cL_law 337 = .ok (.iaload, 1) := by decide +kernel
theorem dL_law_338 : decode cL_law 338 = .ok (.invokevirtual 32, 3) := by decide +kernel
theorem dL_law_341 : decode cL_law 341 = .ok (.if_icmp .eq 960, 3) := by decide +kernel
theorem dL_law_344 : decode cL_law 344 = .ok (.iconst 0, 1) := by decide +kernel
theorem dL_law_345 : decode cL_law 345 = .ok (.ireturn, 1) := by decide +kernel
theorem dL_law_346 : decode cL_law 346 = .ok (.aload_n 1, 1) := by decide +kernel
theorem dL_law_347 : decode cL_law 347 = .ok (.aload_n 0, 1) := by decide +kernel
theorem dL_law_348 : decode cL_law 348 = .ok (.iload_n 3, 1) := by decide +kernel
theorem dL_law_349 : decode cL_law 349 = .ok (.iconst 1, 1) := by decide +kernel
theorem dL_law_350 : decode cL_law 350 = .ok (.iadd, 1) := by decide +kernel
theorem dL_law_351 : decode cL_law 351 = .ok (.iaload, 1) := by decide +kernel
theorem dL_law_352 : decode cL_law 352 = .ok (.aload_n 0, 1) := by decide +kernel
theorem dL_law_353 : decode cL_law 353 = .ok (.iload_n 3, 1) := by decide +kernel
theorem dL_law_354 : decode cL_law 354 = .ok (.iconst 2, 1) := by decide +kernel
theorem dL_law_355 : decode cL_law 355 = .ok (.iadd, 1) := by decide +kernel
theorem dL_law_356 : decode cL_law 356 = .ok (.iaload, 1) := by decide +kernel
theorem dL_law_357 : decode cL_law 357 = .ok (.aload_n 0, 1) := by decide +kernel
theorem dL_law_358 : decode cL_law 358 = .ok (.iload_n 3, 1) := by decide +kernel
theorem dL_law_359 : decode cL_law 359 = .ok (.iconst 3, 1) := by decide +kernel
theorem dL_law_360 : decode cL_law 360 = .ok (.iadd, 1) := by decide +kernel
theorem dL_law_361 : decode cL_law 361 = .ok (.iaload, 1) := by decide +kernel
theorem dL_law_362 : decode cL_law 362 = .ok (.invokevirtual 33, 3) := by decide +kernel
theorem dL_law_365 : decode cL_law 365 = .ok (.aload_n 2, 1) := by decide +kernel
theorem dL_law_366 : decode cL_law 366 = .ok (.aload_n 0, 1) := by decide +kernel
theorem dL_law_367 : decode cL_law 367 = .ok (.iload_n 3, 1) := by decide +kernel
theorem dL_law_368 : decode cL_law 368 = .ok (.iconst 1, 1) := by decide +kernel
theorem dL_law_369 : decode cL_law 369 = .ok (.iadd, 1) := by decide +kernel
theorem dL_law_370 : decode cL_law 370 = .ok (.iaload, 1) := by decide +kernel
theorem dL_law_371 : decode cL_law 371 = .ok (.aload_n 0, 1) := by decide +kernel
theorem dL_law_372 : decode cL_law 372 = .ok (.iload_n 3, 1) := by decide +kernel
theorem dL_law_373 : decode cL_law 373 = .ok (.iconst 2, 1) := by decide +kernel
theorem dL_law_374 : decode cL_law 374 = .ok (.iadd, 1) := by decide +kernel
theorem dL_law_375 : decode cL_law 375 = .ok (.iaload, 1) := by decide +kernel
theorem dL_law_376 : decode cL_law 376 = .ok (.aload_n 0, 1) := by decide +kernel
theorem dL_law_377 : decode cL_law 377 = .ok (.iload_n 3, 1) := by decide +kernel
theorem dL_law_378 : decode cL_law 378 = .ok (.iconst 3, 1) := by decide +kernel
theorem dL_law_379 : decode cL_law 379 = .ok (.iadd, 1) := by decide +kernel
theorem dL_law_380 : decode cL_law 380 = .ok (.iaload, 1) := by decide +kernel
theorem dL_law_381 : decode cL_law 381 = .ok (.invokevirtual 37, 3) := by decide +kernel
theorem dL_law_384 : decode cL_law 384 = .ok (.if_icmp .eq 917, 3) := by decide +kernel
theorem dL_law_387 : decode cL_law 387 = .ok (.iconst 0, 1) := by decide +kernel
theorem dL_law_388 : decode cL_law 388 = .ok (.ireturn, 1) := by decide +kernel
theorem dL_law_389 : decode cL_law 389 = .ok (.aload_n 1, 1) := by decide +kernel
theorem dL_law_390 : decode cL_law 390 = .ok (.aload_n 0, 1) := by decide +kernel
theorem dL_law_391 : decode cL_law 391 = .ok (.iload_n 3, 1) := by decide +kernel
theorem dL_law_392 : decode cL_law 392 = .ok (.iconst 1, 1) := by decide +kernel
theorem dL_law_393 : decode cL_law 393 = .ok (.iadd, 1) := by decide +kernel
theorem dL_law_394 : decode cL_law 394 = .ok (.iaload, 1) := by decide +kernel
theorem dL_law_395 : decode cL_law 395 = .ok (.invokevirtual 38, 3) := by decide +kernel
theorem dL_law_398 : decode cL_law 398 = .ok (.aload_n 2, 1) := by decide +kernel
theorem dL_law_399 : decode cL_law 399 = .ok (.aload_n 0, 1) := by decide +kernel
theorem dL_law_400 : decode cL_law 400 = .ok (.iload_n 3, 1) := by decide +kernel
theorem dL_law_401 : decode cL_law 401 = .ok (.iconst 1, 1) := by decide +kernel
theorem dL_law_402 : decode cL_law 402 = .ok (.iadd, 1) := by decide +kernel
theorem dL_law_403 : decode cL_law 403 = .ok (.iaload, 1) := by decide +kernel
theorem dL_law_404 : decode cL_law 404 = .ok (.invokevirtual 41, 3) := by decide +kernel
theorem dL_law_407 : decode cL_law 407 = .ok (.if_icmp .eq 894, 3) := by decide +kernel
theorem dL_law_410 : decode cL_law 410 = .ok (.iconst 0, 1) := by decide +kernel
theorem dL_law_411 : decode cL_law 411 = .ok (.ireturn, 1) := by decide +kernel
theorem dL_law_412 : decode cL_law 412 = .ok (.aload_n 1, 1) := by decide +kernel
theorem dL_law_413 : decode cL_law 413 = .ok (.aload_n 0, 1) := by decide +kernel
theorem dL_law_414 : decode cL_law 414 = .ok (.iload_n 3, 1) := by decide +kernel
theorem dL_law_415 : decode cL_law 415 = .ok (.iconst 1, 1) := by decide +kernel
theorem dL_law_416 : decode cL_law 416 = .ok (.iadd, 1) := by decide +kernel
theorem dL_law_417 : decode cL_law 417 = .ok (.iaload, 1) := by decide +kernel
theorem dL_law_418 : decode cL_law 418 = .ok (.aload_n 0, 1) := by decide +kernel
theorem dL_law_419 : decode cL_law 419 = .ok (.iload_n 3, 1) := by decide +kernel
theorem dL_law_420 : decode cL_law 420 = .ok (.iconst 2, 1) := by decide +kernel
theorem dL_law_421 : decode cL_law 421 = .ok (.iadd, 1) := by decide +kernel
theorem dL_law_422 : decode cL_law 422 = .ok (.iaload, 1) := by decide +kernel
theorem dL_law_423 : decode cL_law 423 = .ok (.aload_n 0, 1) := by decide +kernel
theorem dL_law_424 : decode cL_law 424 = .ok (.iload_n 3, 1) := by decide +kernel
theorem dL_law_425 : decode cL_law 425 = .ok (.iconst 3, 1) := by decide +kernel
theorem dL_law_426 : decode cL_law 426 = .ok (.iadd, 1) := by decide +kernel
theorem dL_law_427 : decode cL_law 427 = .ok (.iaload, 1) := by decide +kernel
theorem dL_law_428 : decode cL_law 428 = .ok (.aload_n 0, 1) := by decide +kernel
theorem dL_law_429 : decode cL_law 429 = .ok (.iload_n 3, 1) := by decide +kernel
theorem dL_law_430 : decode cL_law 430 = .ok (.iconst 4, 1) := by decide +kernel
theorem dL_law_431 : decode cL_law 431 = .ok (.iadd, 1) := by decide +kernel
theorem dL_law_432 : decode cL_law 432 = .ok (.iaload, 1) := by decide +kernel
theorem dL_law_433 : decode cL_law 433 = .ok (.aload_n 0, 1) := by decide +kernel
theorem dL_law_434 : decode cL_law 434 = .ok (.iload_n 3, 1) := by decide +kernel
theorem dL_law_435 : decode cL_law 435 = .ok (.iconst 5, 1) := by decide +kernel
theorem dL_law_436 : decode cL_law 436 = .ok (.iadd, 1) := by decide +kernel
theorem dL_law_437 : decode cL_law 437 = .ok (.iaload, 1) := by decide +kernel
theorem dL_law_438 : decode cL_law 438 = .ok (.invokevirtual 42, 3) := by decide +kernel
theorem dL_law_441 : decode cL_law 441 = .ok (.aload_n 2, 1) := by decide +kernel
theorem dL_law_442 : decode cL_law 442 = .ok (.aload_n 0, 1) := by decide +kernel
theorem dL_law_443 : decode cL_law 443 = .ok (.iload_n 3, 1) := by decide +kernel
theorem dL_law_444 : decode cL_law 444 = .ok (.iconst 1, 1) := by decide +kernel
theorem dL_law_445 : decode cL_law 445 = .ok (.iadd, 1) := by decide +kernel
theorem dL_law_446 : decode cL_law 446 = .ok (.iaload, 1) := by decide +kernel
theorem dL_law_447 : decode cL_law 447 = .ok (.aload_n 0, 1) := by decide +kernel
theorem dL_law_448 : decode cL_law 448 = .ok (.iload_n 3, 1) := by decide +kernel
theorem dL_law_449 : decode cL_law 449 = .ok (.iconst 2, 1) := by decide +kernel
theorem dL_law_450 : decode cL_law 450 = .ok (.iadd, 1) := by decide +kernel
theorem dL_law_451 : decode cL_law 451 = .ok (.iaload, 1) := by decide +kernel
theorem dL_law_452 : decode cL_law 452 = .ok (.aload_n 0, 1) := by decide +kernel
theorem dL_law_453 : decode cL_law 453 = .ok (.iload_n 3, 1) := by decide +kernel
theorem dL_law_454 : decode cL_law 454 = .ok (.iconst 3, 1) := by decide +kernel
theorem dL_law_455 : decode cL_law 455 = .ok (.iadd, 1) := by decide +kernel
theorem dL_law_456 : decode cL_law 456 = .ok (.iaload, 1) := by decide +kernel
theorem dL_law_457 : decode cL_law 457 = .ok (.aload_n 0, 1) := by decide +kernel
theorem dL_law_458 : decode cL_law 458 = .ok (.iload_n 3, 1) := by decide +kernel
theorem dL_law_459 : decode cL_law 459 = .ok (.iconst 4, 1) := by decide +kernel
theorem dL_law_460 : decode cL_law 460 = .ok (.iadd, 1) := by decide +kernel
theorem dL_law_461 : decode cL_law 461 = .ok (.iaload, 1) := by decide +kernel
theorem dL_law_462 : decode cL_law 462 = .ok (.aload_n 0, 1) := by decide +kernel
theorem dL_law_463 : decode cL_law 463 = .ok (.iload_n 3, 1) := by decide +kernel
theorem dL_law_464 : decode cL_law 464 = .ok (.iconst 5, 1) := by decide +kernel
theorem dL_law_465 : decode cL_law 465 = .ok (.iadd, 1) := by decide +kernel
theorem dL_law_466 : decode cL_law 466 = .ok (.iaload, 1) := by decide +kernel
theorem dL_law_467 : decode cL_law 467 = .ok (.invokevirtual 46, 3) := by decide +kernel
theorem dL_law_470 : decode cL_law 470 = .ok (.if_icmp .eq 831, 3) := by decide +kernel
theorem dL_law_473 : decode cL_law 473 = .ok (.iconst 0, 1) := by decide +kernel
theorem dL_law_474 : decode cL_law 474 = .ok (.ireturn, 1) := by decide +kernel
theorem dL_law_475 : decode cL_law 475 = .ok (.aload_n 1, 1) := by decide +kernel
theorem dL_law_476 : decode cL_law 476 = .ok (.aload_n 0, 1) := by decide +kernel
theorem dL_law_477 : decode cL_law 477 = .ok (.iload_n 3, 1) := by decide +kernel
theorem dL_law_478 : decode cL_law 478 = .ok (.iconst 1, 1) := by decide +kernel
theorem dL_law_479 : decode cL_law 479 = .ok (.iadd, 1) := by decide +kernel
theorem dL_law_480 : decode cL_law 480 = .ok (.iaload, 1) := by decide +kernel
theorem dL_law_481 : decode cL_law 481 = .ok (.invokevirtual 47, 3) := by decide +kernel
theorem dL_law_484 : decode cL_law 484 = .ok (.aload_n 2, 1) := by decide +kernel
theorem dL_law_485 : decode cL_law 485 = .ok (.aload_n 0, 1) := by decide +kernel
theorem dL_law_486 : decode cL_law 486 = .ok (.iload_n 3, 1) := by decide +kernel
theorem dL_law_487 : decode cL_law 487 = .ok (.iconst 1, 1) := by decide +kernel
theorem dL_law_488 : decode cL_law 488 = .ok (.iadd, 1) := by decide +kernel
theorem dL_law_489 : decode cL_law 489 = .ok (.iaload, 1) := by decide +kernel
theorem dL_law_490 : decode cL_law 490 = .ok (.invokevirtual 51, 3) := by decide +kernel
theorem dL_law_493 : decode cL_law 493 = .ok (.if_icmp .eq 808, 3) := by decide +kernel
theorem dL_law_496 : decode cL_law 496 = .ok (.iconst 0, 1) := by decide +kernel
theorem dL_law_497 : decode cL_law 497 = .ok (.ireturn, 1) := by decide +kernel
theorem dL_law_498 : decode cL_law 498 = .ok (.aload_n 1, 1) := by decide +kernel
theorem dL_law_499 : decode cL_law 499 = .ok (.aload_n 0, 1) := by decide +kernel
theorem dL_law_500 : decode cL_law 500 = .ok (.iload_n 3, 1) := by decide +kernel
theorem dL_law_501 : decode cL_law 501 = .ok (.iconst 1, 1) := by decide +kernel
theorem dL_law_502 : decode cL_law 502 = .ok (.iadd, 1) := by decide +kernel
theorem dL_law_503 : decode cL_law 503 = .ok (.iaload, 1) := by decide +kernel
theorem dL_law_504 : decode cL_law 504 = .ok (.invokevirtual 52, 3) := by decide +kernel
theorem dL_law_507 : decode cL_law 507 = .ok (.aload_n 2, 1) := by decide +kernel
theorem dL_law_508 : decode cL_law 508 = .ok (.aload_n 0, 1) := by decide +kernel
theorem dL_law_509 : decode cL_law 509 = .ok (.iload_n 3, 1) := by decide +kernel
theorem dL_law_510 : decode cL_law 510 = .ok (.iconst 1, 1) := by decide +kernel
theorem dL_law_511 : decode cL_law 511 = .ok (.iadd, 1) := by decide +kernel
theorem dL_law_512 : decode cL_law 512 = .ok (.iaload, 1) := by decide +kernel
theorem dL_law_513 : decode cL_law 513 = .ok (.invokevirtual 55, 3) := by decide +kernel
theorem dL_law_516 : decode cL_law 516 = .ok (.if_icmp .eq 785, 3) := by decide +kernel
theorem dL_law_519 : decode cL_law 519 = .ok (.iconst 0, 1) := by decide +kernel
theorem dL_law_520 : decode cL_law 520 = .ok (.ireturn, 1) := by decide +kernel
theorem dL_law_521 : decode cL_law 521 = .ok (.aload_n 1, 1) := by decide +kernel
theorem dL_law_522 : decode cL_law 522 = .ok (.invokevirtual 56, 3) := by decide +kernel
theorem dL_law_525 : decode cL_law 525 = .ok (.aload_n 2, 1) := by decide +kernel
theorem dL_law_526 : decode cL_law 526 = .ok (.invokevirtual 60, 3) := by decide +kernel
theorem dL_law_529 : decode cL_law 529 = .ok (.if_icmp .eq 772, 3) := by decide +kernel
theorem dL_law_532 : decode cL_law 532 = .ok (.iconst 0, 1) := by decide +kernel
theorem dL_law_533 : decode cL_law 533 = .ok (.ireturn, 1) := by decide +kernel
theorem dL_law_534 : decode cL_law 534 = .ok (.aload_n 1, 1) := by decide +kernel
theorem dL_law_535 : decode cL_law 535 = .ok (.aload_n 0, 1) := by decide +kernel
theorem dL_law_536 : decode cL_law 536 = .ok (.iload_n 3, 1) := by decide +kernel
theorem dL_law_537 : decode cL_law 537 = .ok (.iconst 1, 1) := by decide +kernel
theorem dL_law_538 : decode cL_law 538 = .ok (.iadd, 1) := by decide +kernel
theorem dL_law_539 : decode cL_law 539 = .ok (.iaload, 1) := by decide +kernel
theorem dL_law_540 : decode cL_law 540 = .ok (.invokevirtual 61, 3) := by decide +kernel
theorem dL_law_543 : decode cL_law 543 = .ok (.aload_n 2, 1) := by decide +kernel
theorem dL_law_544 : decode cL_law 544 = .ok (.aload_n 0, 1) := by decide +kernel
theorem dL_law_545 : decode cL_law 545 = .ok (.iload_n 3, 1) := by decide +kernel
theorem dL_law_546 : decode cL_law 546 = .ok (.iconst 1, 1) := by decide +kernel
theorem dL_law_547 : decode cL_law 547 = .ok (.iadd, 1) := by decide +kernel
theorem dL_law_548 : decode cL_law 548 = .ok (.iaload, 1) := by decide +kernel
theorem dL_law_549 : decode cL_law 549 = .ok (.invokevirtual 64, 3) := by decide +kernel
theorem dL_law_552 : decode cL_law 552 = .ok (.if_icmp .eq 749, 3) := by decide +kernel
theorem dL_law_555 : decode cL_law 555 = .ok (.iconst 0, 1) := by decide +kernel
theorem dL_law_556 : decode cL_law 556 = .ok (.ireturn, 1) := by decide +kernel
theorem dL_law_557 : decode cL_law 557 = .ok (.aload_n 1, 1) := by decide +kernel
theorem dL_law_558 : decode cL_law 558 = .ok (.aload_n 0, 1) := by decide +kernel
theorem dL_law_559 : decode cL_law 559 = .ok (.iload_n 3, 1) := by decide +kernel
theorem dL_law_560 : decode cL_law 560 = .ok (.iconst 1, 1) := by decide +kernel
theorem dL_law_561 : decode cL_law 561 = .ok (.iadd, 1) := by decide +kernel
theorem dL_law_562 : decode cL_law 562 = .ok (.iaload, 1) := by decide +kernel
theorem dL_law_563 : decode cL_law 563 = .ok (.invokevirtual 65, 3) := by decide +kernel
theorem dL_law_566 : decode cL_law 566 = .ok (.aload_n 2, 1) := by decide +kernel
theorem dL_law_567 : decode cL_law 567 = .ok (.aload_n 0, 1) := by decide +kernel
theorem dL_law_568 : decode cL_law 568 = .ok (.iload_n 3, 1) := by decide +kernel
theorem dL_law_569 : decode cL_law 569 = .ok (.iconst 1, 1) := by decide +kernel
theorem dL_law_570 : decode cL_law 570 = .ok (.iadd, 1) := by decide +kernel
theorem dL_law_571 : decode cL_law 571 = .ok (.iaload, 1) := by decide +kernel
theorem dL_law_572 : decode cL_law 572 = .ok (.invokevirtual 68, 3) := by decide +kernel
theorem dL_law_575 : decode cL_law 575 = .ok (.if_icmp .eq 726, 3) := by decide +kernel
theorem dL_law_578 : decode cL_law 578 = .ok (.iconst 0, 1) := by decide +kernel
theorem dL_law_579 : decode cL_law 579 = .ok (.ireturn, 1) := by decide +kernel
theorem dL_law_580 : decode cL_law 580 = .ok (.aload_n 1, 1) := by decide +kernel
theorem dL_law_581 : decode cL_law 581 = .ok (.aload_n 0, 1) := by decide +kernel
theorem dL_law_582 : decode cL_law 582 = .ok (.iload_n 3, 1) := by decide +kernel
theorem dL_law_583 : decode cL_law 583 = .ok (.iconst 1, 1) := by decide +kernel
theorem dL_law_584 : decode cL_law 584 = .ok (.iadd, 1) := by decide +kernel
theorem dL_law_585 : decode cL_law 585 = .ok (.iaload, 1) := by decide +kernel
theorem dL_law_586 : decode cL_law 586 = .ok (.aload_n 0, 1) := by decide +kernel
theorem dL_law_587 : decode cL_law 587 = .ok (.iload_n 3, 1) := by decide +kernel
theorem dL_law_588 : decode cL_law 588 = .ok (.iconst 2, 1) := by decide +kernel
theorem dL_law_589 : decode cL_law 589 = .ok (.iadd, 1) := by decide +kernel
theorem dL_law_590 : decode cL_law 590 = .ok (.iaload, 1) := by decide +kernel
theorem dL_law_591 : decode cL_law 591 = .ok (.invokevirtual 69, 3) := by decide +kernel
theorem dL_law_594 : decode cL_law 594 = .ok (.aload_n 2, 1) := by decide +kernel
theorem dL_law_595 : decode cL_law 595 = .ok (.aload_n 0, 1) := by decide +kernel
theorem dL_law_596 : decode cL_law 596 = .ok (.iload_n 3, 1) := by decide +kernel
theorem dL_law_597 : decode cL_law 597 = .ok (.iconst 1, 1) := by decide +kernel
theorem dL_law_598 : decode cL_law 598 = .ok (.iadd, 1) := by decide +kernel
theorem dL_law_599 : decode cL_law 599 = .ok (.iaload, 1) := by decide +kernel
theorem dL_law_600 : decode cL_law 600 = .ok (.aload_n 0, 1) := by decide +kernel
theorem dL_law_601 : decode cL_law 601 = .ok (.iload_n 3, 1) := by decide +kernel
theorem dL_law_602 : decode cL_law 602 = .ok (.iconst 2, 1) := by decide +kernel
theorem dL_law_603 : decode cL_law 603 = .ok (.iadd, 1) := by decide +kernel
theorem dL_law_604 : decode cL_law 604 = .ok (.iaload, 1) := by decide +kernel
theorem dL_law_605 : decode cL_law 605 = .ok (.invokevirtual 73, 3) := by decide +kernel
theorem dL_law_608 : decode cL_law 608 = .ok (.if_icmp .eq 693, 3) := by decide +kernel
theorem dL_law_611 : decode cL_law 611 = .ok (.iconst 0, 1) := by decide +kernel
theorem dL_law_612 : decode cL_law 612 = .ok (.ireturn, 1) := by decide +kernel
theorem dL_law_613 : decode cL_law 613 = .ok (.aload_n 1, 1) := by decide +kernel
theorem dL_law_614 : decode cL_law 614 = .ok (.aload_n 0, 1) := by decide +kernel
theorem dL_law_615 : decode cL_law 615 = .ok (.iload_n 3, 1) := by decide +kernel
theorem dL_law_616 : decode cL_law 616 = .ok (.iconst 1, 1) := by decide +kernel
theorem dL_law_617 : decode cL_law 617 = .ok (.iadd, 1) := by decide +kernel
theorem dL_law_618 : decode cL_law 618 = .ok (.iaload, 1) := by decide +kernel
theorem dL_law_619 : decode cL_law 619 = .ok (.aload_n 0, 1) := by decide +kernel
theorem dL_law_620 : decode cL_law 620 = .ok (.iload_n 3, 1) := by decide +kernel
theorem dL_law_621 : decode cL_law 621 = .ok (.iconst 2, 1) := by decide +kernel
theorem dL_law_622 : decode cL_law 622 = .ok (.iadd, 1) := by decide +kernel
theorem dL_law_623 : decode cL_law 623 = .ok (.iaload, 1) := by decide +kernel
theorem dL_law_624 : decode cL_law 624 = .ok (.invokevirtual 74, 3) := by decide +kernel
theorem dL_law_627 : decode cL_law 627 = .ok (.aload_n 2, 1) := by decide +kernel
theorem dL_law_628 : decode cL_law 628 = .ok (.aload_n 0, 1) := by decide +kernel
theorem dL_law_629 : decode cL_law 629 = .ok (.iload_n 3, 1) := by decide +kernel
theorem dL_law_630 : decode cL_law 630 = .ok (.iconst 1, 1) := by decide +kernel
theorem dL_law_631 : decode cL_law 631 = .ok (.iadd, 1) := by decide +kernel
theorem dL_law_632 : decode cL_law 632 = .ok (.iaload, 1) := by decide +kernel
theorem dL_law_633 : decode cL_law 633 = .ok (.aload_n 0, 1) := by decide +kernel
theorem dL_law_634 : decode cL_law 634 = .ok (.iload_n 3, 1) := by decide +kernel
theorem dL_law_635 : decode cL_law 635 = .ok (.iconst 2, 1) := by decide +kernel
theorem dL_law_636 : decode cL_law 636 = .ok (.iadd, 1) := by decide +kernel
theorem dL_law_637 : decode cL_law 637 = .ok (.iaload, 1) := by decide +kernel
theorem dL_law_638 : decode cL_law 638 = .ok (.invokevirtual 77, 3) := by decide +kernel
theorem dL_law_641 : decode cL_law 641 = .ok (.if_icmp .eq 660, 3) := by decide +kernel
theorem dL_law_644 : decode cL_law 644 = .ok (.iconst 0, 1) := by decide +kernel
theorem dL_law_645 : decode cL_law 645 = .ok (.ireturn, 1) := by decide +kernel
theorem dL_law_646 : decode cL_law 646 = .ok (.aload_n 1, 1) := by decide +kernel
theorem dL_law_647 : decode cL_law 647 = .ok (.aload_n 0, 1) := by decide +kernel
theorem dL_law_648 : decode cL_law 648 = .ok (.iload_n 3, 1) := by decide +kernel
theorem dL_law_649 : decode cL_law 649 = .ok (.iconst 1, 1) := by decide +kernel
theorem dL_law_650 : decode cL_law 650 = .ok (.iadd, 1) := by decide +kernel
theorem dL_law_651 : decode cL_law 651 = .ok (.iaload, 1) := by decide +kernel
theorem dL_law_652 : decode cL_law 652 = .ok (.aload_n 0, 1) := by decide +kernel
theorem dL_law_653 : decode cL_law 653 = .ok (.iload_n 3, 1) := by decide +kernel
theorem dL_law_654 : decode cL_law 654 = .ok (.iconst 2, 1) := by decide +kernel
theorem dL_law_655 : decode cL_law 655 = .ok (.iadd, 1) := by decide +kernel
theorem dL_law_656 : decode cL_law 656 = .ok (.iaload, 1) := by decide +kernel
theorem dL_law_657 : decode cL_law 657 = .ok (.invokevirtual 78, 3) := by decide +kernel
theorem dL_law_660 : decode cL_law 660 = .ok (.aload_n 2, 1) := by decide +kernel
theorem dL_law_661 : decode cL_law 661 = .ok (.aload_n 0, 1) := by decide +kernel
theorem dL_law_662 : decode cL_law 662 = .ok (.iload_n 3, 1) := by decide +kernel
theorem dL_law_663 : decode cL_law 663 = .ok (.iconst 1, 1) := by decide +kernel
theorem dL_law_664 : decode cL_law 664 = .ok (.iadd, 1) := by decide +kernel
theorem dL_law_665 : decode cL_law 665 = .ok (.iaload, 1) := by decide +kernel
theorem dL_law_666 : decode cL_law 666 = .ok (.aload_n 0, 1) := by decide +kernel
theorem dL_law_667 : decode cL_law 667 = .ok (.iload_n 3, 1) := by decide +kernel
theorem dL_law_668 : decode cL_law 668 = .ok (.iconst 2, 1) := by decide +kernel
theorem dL_law_669 : decode cL_law 669 = .ok (.iadd, 1) := by decide +kernel
theorem dL_law_670 : decode cL_law 670 = .ok (.iaload, 1) := by decide +kernel
theorem dL_law_671 : decode cL_law 671 = .ok (.invokevirtual 81, 3) := by decide +kernel
theorem dL_law_674 : decode cL_law 674 = .ok (.if_icmp .eq 627, 3) := by decide +kernel
theorem dL_law_677 : decode cL_law 677 = .ok (.iconst 0, 1) := by decide +kernel
theorem dL_law_678 : decode cL_law 678 = .ok (.ireturn, 1) := by decide +kernel
theorem dL_law_679 : decode cL_law 679 = .ok (.aload_n 1, 1) := by decide +kernel
theorem dL_law_680 : decode cL_law 680 = .ok (.aload_n 0, 1) := by decide +kernel
theorem dL_law_681 : decode cL_law 681 = .ok (.iload_n 3, 1) := by decide +kernel
theorem dL_law_682 : decode cL_law 682 = .ok (.iconst 1, 1) := by decide +kernel
theorem dL_law_683 : decode cL_law 683 = .ok (.iadd, 1) := by decide +kernel
theorem dL_law_684 : decode cL_law 684 = .ok (.iaload, 1) := by decide +kernel
theorem dL_law_685 : decode cL_law 685 = .ok (.aload_n 0, 1) := by decide +kernel
theorem dL_law_686 : decode cL_law 686 = .ok (.iload_n 3, 1) := by decide +kernel
theorem dL_law_687 : decode cL_law 687 = .ok (.iconst 2, 1) := by decide +kernel
theorem dL_law_688 : decode cL_law 688 = .ok (.iadd, 1) := by decide +kernel
theorem dL_law_689 : decode cL_law 689 = .ok (.iaload, 1) := by decide +kernel
theorem dL_law_690 : decode cL_law 690 = .ok (.aload_n 0, 1) := by decide +kernel
theorem dL_law_691 : decode cL_law 691 = .ok (.iload_n 3, 1) := by decide +kernel
theorem dL_law_692 : decode cL_law 692 = .ok (.iconst 3, 1) := by decide +kernel
theorem dL_law_693 : decode cL_law 693 = .ok (.iadd, 1) := by decide +kernel
theorem dL_law_694 : decode cL_law 694 = .ok (.iaload, 1) := by decide +kernel
theorem dL_law_695 : decode cL_law 695 = .ok (.aload_n 0, 1) := by decide +kernel
theorem dL_law_696 : decode cL_law 696 = .ok (.iload_n 3, 1) := by decide +kernel
theorem dL_law_697 : decode cL_law 697 = .ok (.iconst 4, 1) := by decide +kernel
theorem dL_law_698 : decode cL_law 698 = .ok (.iadd, 1) := by decide +kernel
theorem dL_law_699 : decode cL_law 699 = .ok (.iaload, 1) := by decide +kernel
theorem dL_law_700 : decode cL_law 700 = .ok (.invokevirtual 82, 3) := by decide +kernel
theorem dL_law_703 : decode cL_law 703 = .ok (.aload_n 2, 1) := by decide +kernel
theorem dL_law_704 : decode cL_law 704 = .ok (.aload_n 0, 1) := by decide +kernel
theorem dL_law_705 : decode cL_law 705 = .ok (.iload_n 3, 1) := by decide +kernel
theorem dL_law_706 : decode cL_law 706 = .ok (.iconst 1, 1) := by decide +kernel
theorem dL_law_707 : decode cL_law 707 = .ok (.iadd, 1) := by decide +kernel
theorem dL_law_708 : decode cL_law 708 = .ok (.iaload, 1) := by decide +kernel
theorem dL_law_709 : decode cL_law 709 = .ok (.aload_n 0, 1) := by decide +kernel
theorem dL_law_710 : decode cL_law 710 = .ok (.iload_n 3, 1) := by decide +kernel
theorem dL_law_711 : decode cL_law 711 = .ok (.iconst 2, 1) := by decide +kernel
theorem dL_law_712 : decode cL_law 712 = .ok (.iadd, 1) := by decide +kernel
theorem dL_law_713 : decode cL_law 713 = .ok (.iaload, 1) := by decide +kernel
theorem dL_law_714 : decode cL_law 714 = .ok (.aload_n 0, 1) := by decide +kernel
theorem dL_law_715 : decode cL_law 715 = .ok (.iload_n 3, 1) := by decide +kernel
theorem dL_law_716 : decode cL_law 716 = .ok (.iconst 3, 1) := by decide +kernel
theorem dL_law_717 : decode cL_law 717 = .ok (.iadd, 1) := by decide +kernel
theorem dL_law_718 : decode cL_law 718 = .ok (.iaload, 1) := by decide +kernel
theorem dL_law_719 : decode cL_law 719 = .ok (.aload_n 0, 1) := by decide +kernel
theorem dL_law_720 : decode cL_law 720 = .ok (.iload_n 3, 1) := by decide +kernel
theorem dL_law_721 : decode cL_law 721 = .ok (.iconst 4, 1) := by decide +kernel
theorem dL_law_722 : decode cL_law 722 = .ok (.iadd, 1) := by decide +kernel
theorem dL_law_723 : decode cL_law 723 = .ok (.iaload, 1) := by decide +kernel
theorem dL_law_724 : decode cL_law 724 = .ok (.invokevirtual 86, 3) := by decide +kernel
theorem dL_law_727 : decode cL_law 727 = .ok (.if_icmp .eq 574, 3) := by decide +kernel
theorem dL_law_730 : decode cL_law 730 = .ok (.iconst 0, 1) := by decide +kernel
theorem dL_law_731 : decode cL_law 731 = .ok (.ireturn, 1) := by decide +kernel
theorem dL_law_732 : decode cL_law 732 = .ok (.aload_n 1, 1) := by decide +kernel
theorem dL_law_733 : decode cL_law 733 = .ok (.aload_n 0, 1) := by decide +kernel
theorem dL_law_734 : decode cL_law 734 = .ok (.iload_n 3, 1) := by decide +kernel
theorem dL_law_735 : decode cL_law 735 = .ok (.iconst 1, 1) := by decide +kernel
theorem dL_law_736 : decode cL_law 736 = .ok (.iadd, 1) := by decide +kernel
theorem dL_law_737 : decode cL_law 737 = .ok (.iaload, 1) := by decide +kernel
theorem dL_law_738 : decode cL_law 738 = .ok (.aload_n 0, 1) := by decide +kernel
theorem dL_law_739 : decode cL_law 739 = .ok (.iload_n 3, 1) := by decide +kernel
theorem dL_law_740 : decode cL_law 740 = .ok (.iconst 2, 1) := by decide +kernel
theorem dL_law_741 : decode cL_law 741 = .ok (.iadd, 1) := by decide +kernel
theorem dL_law_742 : decode cL_law 742 = .ok (.iaload, 1) := by decide +kernel
theorem dL_law_743 : decode cL_law 743 = .ok (.invokevirtual 87, 3) := by decide +kernel
theorem dL_law_746 : decode cL_law 746 = .ok (.aload_n 2, 1) := by decide +kernel
theorem dL_law_747 : decode cL_law 747 = .ok (.aload_n 0, 1) := by decide +kernel
theorem dL_law_748 : decode cL_law 748 = .ok (.iload_n 3, 1) := by decide +kernel
theorem dL_law_749 : decode cL_law 749 = .ok (.iconst 1, 1) := by decide +kernel
theorem dL_law_750 : decode cL_law 750 = .ok (.iadd, 1) := by decide +kernel
theorem dL_law_751 : decode cL_law 751 = .ok (.iaload, 1) := by decide +kernel
theorem dL_law_752 : decode cL_law 752 = .ok (.aload_n 0, 1) := by decide +kernel
theorem dL_law_753 : decode cL_law 753 = .ok (.iload_n 3, 1) := by decide +kernel
theorem dL_law_754 : decode cL_law 754 = .ok (.iconst 2, 1) := by decide +kernel
theorem dL_law_755 : decode cL_law 755 = .ok (.iadd, 1) := by decide +kernel
theorem dL_law_756 : decode cL_law 756 = .ok (.iaload, 1) := by decide +kernel
theorem dL_law_757 : decode cL_law 757 = .ok (.invokevirtual 90, 3) := by decide +kernel
theorem dL_law_760 : decode cL_law 760 = .ok (.if_icmp .eq 541, 3) := by decide +kernel
theorem dL_law_763 : decode cL_law 763 = .ok (.iconst 0, 1) := by decide +kernel
theorem dL_law_764 : decode cL_law 764 = .ok (.ireturn, 1) := by decide +kernel
theorem dL_law_765 : decode cL_law 765 = .ok (.aload_n 1, 1) := by decide +kernel
theorem dL_law_766 : decode cL_law 766 = .ok (.aload_n 0, 1) := by decide +kernel
theorem dL_law_767 : decode cL_law 767 = .ok (.iload_n 3, 1) := by decide +kernel
theorem dL_law_768 : decode cL_law 768 = .ok (.iconst 1, 1) := by decide +kernel
theorem dL_law_769 : decode cL_law 769 = .ok (.iadd, 1) := by decide +kernel
theorem dL_law_770 : decode cL_law 770 = .ok (.iaload, 1) := by decide +kernel
theorem dL_law_771 : decode cL_law 771 = .ok (.aload_n 0, 1) := by decide +kernel
theorem dL_law_772 : decode cL_law 772 = .ok (.iload_n 3, 1) := by decide +kernel
theorem dL_law_773 : decode cL_law 773 = .ok (.iconst 2, 1) := by decide +kernel
theorem dL_law_774 : decode cL_law 774 = .ok (.iadd, 1) := by decide +kernel
theorem dL_law_775 : decode cL_law 775 = .ok (.iaload, 1) := by decide +kernel
theorem dL_law_776 : decode cL_law 776 = .ok (.aload_n 0, 1) := by decide +kernel
theorem dL_law_777 : decode cL_law 777 = .ok (.iload_n 3, 1) := by decide +kernel
theorem dL_law_778 : decode cL_law 778 = .ok (.iconst 3, 1) := by decide +kernel
theorem dL_law_779 : decode cL_law 779 = .ok (.iadd, 1) := by decide +kernel
theorem dL_law_780 : decode cL_law 780 = .ok (.iaload, 1) := by decide +kernel
theorem dL_law_781 : decode cL_law 781 = .ok (.invokevirtual 91, 3) := by decide +kernel
theorem dL_law_784 : decode cL_law 784 = .ok (.aload_n 2, 1) := by decide +kernel
theorem dL_law_785 : decode cL_law 785 = .ok (.aload_n 0, 1) := by decide +kernel
theorem dL_law_786 : decode cL_law 786 = .ok (.iload_n 3, 1) := by decide +kernel
theorem dL_law_787 : decode cL_law 787 = .ok (.iconst 1, 1) := by decide +kernel
theorem dL_law_788 : decode cL_law 788 = .ok (.iadd, 1) := by decide +kernel
theorem dL_law_789 : decode cL_law 789 = .ok (.iaload, 1) := by decide +kernel
theorem dL_law_790 : decode cL_law 790 = .ok (.aload_n 0, 1) := by decide +kernel
theorem dL_law_791 : decode cL_law 791 = .ok (.iload_n 3, 1) := by decide +kernel
theorem dL_law_792 : decode cL_law 792 = .ok (.iconst 2, 1) := by decide +kernel
theorem dL_law_793 : decode cL_law 793 = .ok (.iadd, 1) := by decide +kernel
theorem dL_law_794 : decode cL_law 794 = .ok (.iaload, 1) := by decide +kernel
theorem dL_law_795 : decode cL_law 795 = .ok (.aload_n 0, 1) := by decide +kernel
theorem dL_law_796 : decode cL_law 796 = .ok (.iload_n 3, 1) := by decide +kernel
theorem dL_law_797 : decode cL_law 797 = .ok (.iconst 3, 1) := by decide +kernel
theorem dL_law_798 : decode cL_law 798 = .ok (.iadd, 1) := by decide +kernel
theorem dL_law_799 : decode cL_law 799 = .ok (.iaload, 1) := by decide +kernel
theorem dL_law_800 : decode cL_law 800 = .ok (.invokevirtual 94, 3) := by decide +kernel
theorem dL_law_803 : decode cL_law 803 = .ok (.if_icmp .eq 498, 3) := by decide +kernel
theorem dL_law_806 : decode cL_law 806 = .ok (.iconst 0, 1) := by decide +kernel
theorem dL_law_807 : decode cL_law 807 = .ok (.ireturn, 1) := by decide +kernel
theorem dL_law_808 : decode cL_law 808 = .ok (.aload_n 1, 1) := by decide +kernel
theorem dL_law_809 : decode cL_law 809 = .ok (.aload_n 0, 1) := by decide +kernel
theorem dL_law_810 : decode cL_law 810 = .ok (.iload_n 3, 1) := by decide +kernel
theorem dL_law_811 : decode cL_law 811 = .ok (.iconst 1, 1) := by decide +kernel
theorem dL_law_812 : decode cL_law 812 = .ok (.iadd, 1) := by decide +kernel
theorem dL_law_813 : decode cL_law 813 = .ok (.iaload, 1) := by decide +kernel
theorem dL_law_814 : decode cL_law 814 = .ok (.aload_n 0, 1) := by decide +kernel
theorem dL_law_815 : decode cL_law 815 = .ok (.iload_n 3, 1) := by decide +kernel
theorem dL_law_816 : decode cL_law 816 = .ok (.iconst 2, 1) := by decide +kernel
theorem dL_law_817 : decode cL_law 817 = .ok (.iadd, 1) := by decide +kernel
theorem dL_law_818 : decode cL_law 818 = .ok (.iaload, 1) := by decide +kernel
theorem dL_law_819 : decode cL_law 819 = .ok (.invokevirtual 95, 3) := by decide +kernel
theorem dL_law_822 : decode cL_law 822 = .ok (.aload_n 2, 1) := by decide +kernel
theorem dL_law_823 : decode cL_law 823 = .ok (.aload_n 0, 1) := by decide +kernel
theorem dL_law_824 : decode cL_law 824 = .ok (.iload_n 3, 1) := by decide +kernel
theorem dL_law_825 : decode cL_law 825 = .ok (.iconst 1, 1) := by decide +kernel
theorem dL_law_826 : decode cL_law 826 = .ok (.iadd, 1) := by decide +kernel
theorem dL_law_827 : decode cL_law 827 = .ok (.iaload, 1) := by decide +kernel
theorem dL_law_828 : decode cL_law 828 = .ok (.aload_n 0, 1) := by decide +kernel
theorem dL_law_829 : decode cL_law 829 = .ok (.iload_n 3, 1) := by decide +kernel
theorem dL_law_830 : decode cL_law 830 = .ok (.iconst 2, 1) := by decide +kernel
theorem dL_law_831 : decode cL_law 831 = .ok (.iadd, 1) := by decide +kernel
theorem dL_law_832 : decode cL_law 832 = .ok (.iaload, 1) := by decide +kernel
theorem dL_law_833 : decode cL_law 833 = .ok (.invokevirtual 98, 3) := by decide +kernel
theorem dL_law_836 : decode cL_law 836 = .ok (.if_icmp .eq 465, 3) := by decide +kernel
theorem dL_law_839 : decode cL_law 839 = .ok (.iconst 0, 1) := by decide +kernel
theorem dL_law_840 : decode cL_law 840 = .ok (.ireturn, 1) := by decide +kernel
theorem dL_law_841 : decode cL_law 841 = .ok (.aload_n 1, 1) := by decide +kernel
theorem dL_law_842 : decode cL_law 842 = .ok (.aload_n 0, 1) := by decide +kernel
theorem dL_law_843 : decode cL_law 843 = .ok (.iload_n 3, 1) := by decide +kernel
theorem dL_law_844 : decode cL_law 844 = .ok (.iconst 1, 1) := by decide +kernel
theorem dL_law_845 : decode cL_law 845 = .ok (.iadd, 1) := by decide +kernel
theorem dL_law_846 : decode cL_law 846 = .ok (.iaload, 1) := by decide +kernel
theorem dL_law_847 : decode cL_law 847 = .ok (.aload_n 0, 1) := by decide +kernel
theorem dL_law_848 : decode cL_law 848 = .ok (.iload_n 3, 1) := by decide +kernel
theorem dL_law_849 : decode cL_law 849 = .ok (.iconst 2, 1) := by decide +kernel
theorem dL_law_850 : decode cL_law 850 = .ok (.iadd, 1) := by decide +kernel
theorem dL_law_851 : decode cL_law 851 = .ok (.iaload, 1) := by decide +kernel
theorem dL_law_852 : decode cL_law 852 = .ok (.invokevirtual 99, 3) := by decide +kernel
theorem dL_law_855 : decode cL_law 855 = .ok (.aload_n 2, 1) := by decide +kernel
theorem dL_law_856 : decode cL_law 856 = .ok (.aload_n 0, 1) := by decide +kernel
theorem dL_law_857 : decode cL_law 857 = .ok (.iload_n 3, 1) := by decide +kernel
theorem dL_law_858 : decode cL_law 858 = .ok (.iconst 1, 1) := by decide +kernel
theorem dL_law_859 : decode cL_law 859 = .ok (.iadd, 1) := by decide +kernel
theorem dL_law_860 : decode cL_law 860 = .ok (.iaload, 1) := by decide +kernel
theorem dL_law_861 : decode cL_law 861 = .ok (.aload_n 0, 1) := by decide +kernel
theorem dL_law_862 : decode cL_law 862 = .ok (.iload_n 3, 1) := by decide +kernel
theorem dL_law_863 : decode cL_law 863 = .ok (.iconst 2, 1) := by decide +kernel
theorem dL_law_864 : decode cL_law 864 = .ok (.iadd, 1) := by decide +kernel
theorem dL_law_865 : decode cL_law 865 = .ok (.iaload, 1) := by decide +kernel
theorem dL_law_866 : decode cL_law 866 = .ok (.invokevirtual 102, 3) := by decide +kernel
theorem dL_law_869 : decode cL_law 869 = .ok (.if_icmp .eq 432, 3) := by decide +kernel
theorem dL_law_872 : decode cL_law 872 = .ok (.iconst 0, 1) := by decide +kernel
theorem dL_law_873 : decode cL_law 873 = .ok (.ireturn, 1) := by decide +kernel
theorem dL_law_874 : decode cL_law 874 = .ok (.aload_n 1, 1) := by decide +kernel
theorem dL_law_875 : decode cL_law 875 = .ok (.aload_n 0, 1) := by decide +kernel
theorem dL_law_876 : decode cL_law 876 = .ok (.iload_n 3, 1) := by decide +kernel
theorem dL_law_877 : decode cL_law 877 = .ok (.iconst 1, 1) := by decide +kernel
theorem dL_law_878 : decode cL_law 878 = .ok (.iadd, 1) := by decide +kernel
theorem dL_law_879 : decode cL_law 879 = .ok (.iaload, 1) := by decide +kernel
theorem dL_law_880 : decode cL_law 880 = .ok (.aload_n 0, 1) := by decide +kernel
theorem dL_law_881 : decode cL_law 881 = .ok (.iload_n 3, 1) := by decide +kernel
theorem dL_law_882 : decode cL_law 882 = .ok (.iconst 2, 1) := by decide +kernel
theorem dL_law_883 : decode cL_law 883 = .ok (.iadd, 1) := by decide +kernel
theorem dL_law_884 : decode cL_law 884 = .ok (.iaload, 1) := by decide +kernel
theorem dL_law_885 : decode cL_law 885 = .ok (.invokevirtual 103, 3) := by decide +kernel
theorem dL_law_888 : decode cL_law 888 = .ok (.aload_n 2, 1) := by decide +kernel
theorem dL_law_889 : decode cL_law 889 = .ok (.aload_n 0, 1) := by decide +kernel
theorem dL_law_890 : decode cL_law 890 = .ok (.iload_n 3, 1) := by decide +kernel
theorem dL_law_891 : decode cL_law 891 = .ok (.iconst 1, 1) := by decide +kernel
theorem dL_law_892 : decode cL_law 892 = .ok (.iadd, 1) := by decide +kernel
theorem dL_law_893 : decode cL_law 893 = .ok (.iaload, 1) := by decide +kernel
theorem dL_law_894 : decode cL_law 894 = .ok (.aload_n 0, 1) := by decide +kernel
theorem dL_law_895 : decode cL_law 895 = .ok (.iload_n 3, 1) := by decide +kernel
theorem dL_law_896 : decode cL_law 896 = .ok (.iconst 2, 1) := by decide +kernel
theorem dL_law_897 : decode cL_law 897 = .ok (.iadd, 1) := by decide +kernel
theorem dL_law_898 : decode cL_law 898 = .ok (.iaload, 1) := by decide +kernel
theorem dL_law_899 : decode cL_law 899 = .ok (.invokevirtual 106, 3) := by decide +kernel
theorem dL_law_902 : decode cL_law 902 = .ok (.if_icmp .eq 399, 3) := by decide +kernel
theorem dL_law_905 : decode cL_law 905 = .ok (.iconst 0, 1) := by decide +kernel
theorem dL_law_906 : decode cL_law 906 = .ok (.ireturn, 1) := by decide +kernel
theorem dL_law_907 : decode cL_law 907 = .ok (.aload_n 1, 1) := by decide +kernel
theorem dL_law_908 : decode cL_law 908 = .ok (.aload_n 0, 1) := by decide +kernel
theorem dL_law_909 : decode cL_law 909 = .ok (.iload_n 3, 1) := by decide +kernel
theorem dL_law_910 : decode cL_law 910 = .ok (.iconst 1, 1) := by decide +kernel
theorem dL_law_911 : decode cL_law 911 = .ok (.iadd, 1) := by decide +kernel
theorem dL_law_912 : decode cL_law 912 = .ok (.iaload, 1) := by decide +kernel
theorem dL_law_913 : decode cL_law 913 = .ok (.aload_n 0, 1) := by decide +kernel
theorem dL_law_914 : decode cL_law 914 = .ok (.iload_n 3, 1) := by decide +kernel
theorem dL_law_915 : decode cL_law 915 = .ok (.iconst 2, 1) := by decide +kernel
theorem dL_law_916 : decode cL_law 916 = .ok (.iadd, 1) := by decide +kernel
theorem dL_law_917 : decode cL_law 917 = .ok (.iaload, 1) := by decide +kernel
theorem dL_law_918 : decode cL_law 918 = .ok (.invokevirtual 107, 3) := by decide +kernel
theorem dL_law_921 : decode cL_law 921 = .ok (.aload_n 2, 1) := by decide +kernel
theorem dL_law_922 : decode cL_law 922 = .ok (.aload_n 0, 1) := by decide +kernel
theorem dL_law_923 : decode cL_law 923 = .ok (.iload_n 3, 1) := by decide +kernel
theorem dL_law_924 : decode cL_law 924 = .ok (.iconst 1, 1) := by decide +kernel
theorem dL_law_925 : decode cL_law 925 = .ok (.iadd, 1) := by decide +kernel
theorem dL_law_926 : decode cL_law 926 = .ok (.iaload, 1) := by decide +kernel
theorem dL_law_927 : decode cL_law 927 = .ok (.aload_n 0, 1) := by decide +kernel
theorem dL_law_928 : decode cL_law 928 = .ok (.iload_n 3, 1) := by decide +kernel
theorem dL_law_929 : decode cL_law 929 = .ok (.iconst 2, 1) := by decide +kernel
theorem dL_law_930 : decode cL_law 930 = .ok (.iadd, 1) := by decide +kernel
theorem dL_law_931 : decode cL_law 931 = .ok (.iaload, 1) := by decide +kernel
theorem dL_law_932 : decode cL_law 932 = .ok (.invokevirtual 111, 3) := by decide +kernel
theorem dL_law_935 : decode cL_law 935 = .ok (.lcmp, 1) := by decide +kernel
theorem dL_law_936 : decode cL_law 936 = .ok (.ifCond .eq 365, 3) := by decide +kernel
theorem dL_law_939 : decode cL_law 939 = .ok (.iconst 0, 1) := by decide +kernel
theorem dL_law_940 : decode cL_law 940 = .ok (.ireturn, 1) := by decide +kernel
theorem dL_law_941 : decode cL_law 941 = .ok (.aload_n 1, 1) := by decide +kernel
theorem dL_law_942 : decode cL_law 942 = .ok (.aload_n 0, 1) := by decide +kernel
theorem dL_law_943 : decode cL_law 943 = .ok (.iload_n 3, 1) := by decide +kernel
theorem dL_law_944 : decode cL_law 944 = .ok (.iconst 1, 1) := by decide +kernel
theorem dL_law_945 : decode cL_law 945 = .ok (.iadd, 1) := by decide +kernel
theorem dL_law_946 : decode cL_law 946 = .ok (.iaload, 1) := by decide +kernel
theorem dL_law_947 : decode cL_law 947 = .ok (.aload_n 0, 1) := by decide +kernel
theorem dL_law_948 : decode cL_law 948 = .ok (.iload_n 3, 1) := by decide +kernel
theorem dL_law_949 : decode cL_law 949 = .ok (.iconst 2, 1) := by decide +kernel
theorem dL_law_950 : decode cL_law 950 = .ok (.iadd, 1) := by decide +kernel
theorem dL_law_951 : decode cL_law 951 = .ok (.iaload, 1) := by decide +kernel
theorem dL_law_952 : decode cL_law 952 = .ok (.invokevirtual 112, 3) := by decide +kernel
theorem dL_law_955 : decode cL_law 955 = .ok (.aload_n 2, 1) := by decide +kernel
theorem dL_law_956 : decode cL_law 956 = .ok (.aload_n 0, 1) := by decide +kernel
theorem dL_law_957 : decode cL_law 957 = .ok (.iload_n 3, 1) := by decide +kernel
theorem dL_law_958 : decode cL_law 958 = .ok (.iconst 1, 1) := by decide +kernel
theorem dL_law_959 : decode cL_law 959 = .ok (.iadd, 1) := by decide +kernel
theorem dL_law_960 : decode cL_law 960 = .ok (.iaload, 1) := by decide +kernel
theorem dL_law_961 : decode cL_law 961 = .ok (.aload_n 0, 1) := by decide +kernel
theorem dL_law_962 : decode cL_law 962 = .ok (.iload_n 3, 1) := by decide +kernel
theorem dL_law_963 : decode cL_law 963 = .ok (.iconst 2, 1) := by decide +kernel
theorem dL_law_964 : decode cL_law 964 = .ok (.iadd, 1) := by decide +kernel
theorem dL_law_965 : decode cL_law 965 = .ok (.iaload, 1) := by decide +kernel
theorem dL_law_966 : decode cL_law 966 = .ok (.invokevirtual 115, 3) := by decide +kernel
theorem dL_law_969 : decode cL_law 969 = .ok (.lcmp, 1) := by decide +kernel
theorem dL_law_970 : decode cL_law 970 = .ok (.ifCond .eq 331, 3) := by decide +kernel
theorem dL_law_973 : decode cL_law 973 = .ok (.iconst 0, 1) := by decide +kernel
theorem dL_law_974 : decode cL_law 974 = .ok (.ireturn, 1) := by decide +kernel
theorem dL_law_975 : decode cL_law 975 = .ok (.aload_n 1, 1) := by decide +kernel
theorem dL_law_976 : decode cL_law 976 = .ok (.invokevirtual 116, 3) := by decide +kernel
theorem dL_law_979 : decode cL_law 979 = .ok (.aload_n 2, 1) := by decide +kernel
theorem dL_law_980 : decode cL_law 980 = .ok (.invokevirtual 119, 3) := by decide +kernel
theorem dL_law_983 : decode cL_law 983 = .ok (.if_icmp .eq 318, 3) := by decide +kernel
theorem dL_law_986 : decode cL_law 986 = .ok (.iconst 0, 1) := by decide +kernel
theorem dL_law_987 : decode cL_law 987 = .ok (.ireturn, 1) := by decide +kernel
theorem dL_law_988 : decode cL_law 988 = .ok (.aload_n 1, 1) := by decide +kernel
theorem dL_law_989 : decode cL_law 989 = .ok (.aload_n 0, 1) := by decide +kernel
theorem dL_law_990 : decode cL_law 990 = .ok (.iload_n 3, 1) := by decide +kernel
theorem dL_law_991 : decode cL_law 991 = .ok (.iconst 1, 1) := by decide +kernel
theorem dL_law_992 : decode cL_law 992 = .ok (.iadd, 1) := by decide +kernel
theorem dL_law_993 : decode cL_law 993 = .ok (.iaload, 1) := by decide +kernel
theorem dL_law_994 : decode cL_law 994 = .ok (.aload_n 0, 1) := by decide +kernel
theorem dL_law_995 : decode cL_law 995 = .ok (.iload_n 3, 1) := by decide +kernel
theorem dL_law_996 : decode cL_law 996 = .ok (.iconst 2, 1) := by decide +kernel
theorem dL_law_997 : decode cL_law 997 = .ok (.iadd, 1) := by decide +kernel
theorem dL_law_998 : decode cL_law 998 = .ok (.iaload, 1) := by decide +kernel
theorem dL_law_999 : decode cL_law 999 = .ok (.aload_n 0, 1) := by decide +kernel
theorem dL_law_1000 : decode cL_law 1000 = .ok (.iload_n 3, 1) := by decide +kernel
theorem dL_law_1001 : decode cL_law 1001 = .ok (.iconst 3, 1) := by decide +kernel
theorem dL_law_1002 : decode cL_law 1002 = .ok (.iadd, 1) := by decide +kernel
theorem dL_law_1003 : decode cL_law 1003 = .ok (.iaload, 1) := by decide +kernel
theorem dL_law_1004 : decode cL_law 1004 = .ok (.invokevirtual 120, 3) := by decide +kernel
theorem dL_law_1007 : decode cL_law 1007 = .ok (.aload_n 2, 1) := by decide +kernel
theorem dL_law_1008 : decode cL_law 1008 = .ok (.aload_n 0, 1) := by decide +kernel
theorem dL_law_1009 : decode cL_law 1009 = .ok (.iload_n 3, 1) := by decide +kernel
theorem dL_law_1010 : decode cL_law 1010 = .ok (.iconst 1, 1) := by decide +kernel
theorem dL_law_1011 : decode cL_law 1011 = .ok (.iadd, 1) := by decide +kernel
theorem dL_law_1012 : decode cL_law 1012 = .ok (.iaload, 1) := by decide +kernel
theorem dL_law_1013 : decode cL_law 1013 = .ok (.aload_n 0, 1) := by decide +kernel
theorem dL_law_1014 : decode cL_law 1014 = .ok (.iload_n 3, 1) := by decide +kernel
theorem dL_law_1015 : decode cL_law 1015 = .ok (.iconst 2, 1) := by decide +kernel
theorem dL_law_1016 : decode cL_law 1016 = .ok (.iadd, 1) := by decide +kernel
theorem dL_law_1017 : decode cL_law 1017 = .ok (.iaload, 1) := by decide +kernel
theorem dL_law_1018 : decode cL_law 1018 = .ok (.aload_n 0, 1) := by decide +kernel
theorem dL_law_1019 : decode cL_law 1019 = .ok (.iload_n 3, 1) := by decide +kernel
theorem dL_law_1020 : decode cL_law 1020 = .ok (.iconst 3, 1) := by decide +kernel
theorem dL_law_1021 : decode cL_law 1021 = .ok (.iadd, 1) := by decide +kernel
theorem dL_law_1022 : decode cL_law 1022 = .ok (.iaload, 1) := by decide +kernel
theorem dL_law_1023 : decode cL_law 1023 = .ok (.invokevirtual 123, 3) := by decide +kernel
theorem dL_law_1026 : decode cL_law 1026 = .ok (.if_icmp .eq 275, 3) := by decide +kernel
theorem dL_law_1029 : decode cL_law 1029 = .ok (.iconst 0, 1) := by decide +kernel
theorem dL_law_1030 : decode cL_law 1030 = .ok (.ireturn, 1) := by decide +kernel
theorem dL_law_1031 : decode cL_law 1031 = .ok (.aload_n 1, 1) := by decide +kernel
theorem dL_law_1032 : decode cL_law 1032 = .ok (.aload_n 0, 1) := by decide +kernel
theorem dL_law_1033 : decode cL_law 1033 = .ok (.iload_n 3, 1) := by decide +kernel
theorem dL_law_1034 : decode cL_law 1034 = .ok (.iconst 1, 1) := by decide +kernel
theorem dL_law_1035 : decode cL_law 1035 = .ok (.iadd, 1) := by decide +kernel
theorem dL_law_1036 : decode cL_law 1036 = .ok (.iaload, 1) := by decide +kernel
theorem dL_law_1037 : decode cL_law 1037 = .ok (.aload_n 0, 1) := by decide +kernel
theorem dL_law_1038 : decode cL_law 1038 = .ok (.iload_n 3, 1) := by decide +kernel
theorem dL_law_1039 : decode cL_law 1039 = .ok (.iconst 2, 1) := by decide +kernel
theorem dL_law_1040 : decode cL_law 1040 = .ok (.iadd, 1) := by decide +kernel
theorem dL_law_1041 : decode cL_law 1041 = .ok (.iaload, 1) := by decide +kernel
theorem dL_law_1042 : decode cL_law 1042 = .ok (.invokevirtual 124, 3) := by decide +kernel
theorem dL_law_1045 : decode cL_law 1045 = .ok (.aload_n 2, 1) := by decide +kernel
theorem dL_law_1046 : decode cL_law 1046 = .ok (.aload_n 0, 1) := by decide +kernel
theorem dL_law_1047 : decode cL_law 1047 = .ok (.iload_n 3, 1) := by decide +kernel
theorem dL_law_1048 : decode cL_law 1048 = .ok (.iconst 1, 1) := by decide +kernel
theorem dL_law_1049 : decode cL_law 1049 = .ok (.iadd, 1) := by decide +kernel
theorem dL_law_1050 : decode cL_law 1050 = .ok (.iaload, 1) := by decide +kernel
theorem dL_law_1051 : decode cL_law 1051 = .ok (.aload_n 0, 1) := by decide +kernel
theorem dL_law_1052 : decode cL_law 1052 = .ok (.iload_n 3, 1) := by decide +kernel
theorem dL_law_1053 : decode cL_law 1053 = .ok (.iconst 2, 1) := by decide +kernel
theorem dL_law_1054 : decode cL_law 1054 = .ok (.iadd, 1) := by decide +kernel
theorem dL_law_1055 : decode cL_law 1055 = .ok (.iaload, 1) := by decide +kernel
theorem dL_law_1056 : decode cL_law 1056 = .ok (.invokevirtual 127, 3) := by decide +kernel
theorem dL_law_1059 : decode cL_law 1059 = .ok (.if_icmp .eq 242, 3) := by decide +kernel
theorem dL_law_1062 : decode cL_law 1062 = .ok (.iconst 0, 1) := by decide +kernel
theorem dL_law_1063 : decode cL_law 1063 = .ok (.ireturn, 1) := by decide +kernel
theorem dL_law_1064 : decode cL_law 1064 = .ok (.aload_n 1, 1) := by decide +kernel
theorem dL_law_1065 : decode cL_law 1065 = .ok (.aload_n 0, 1) := by decide +kernel
theorem dL_law_1066 : decode cL_law 1066 = .ok (.iload_n 3, 1) := by decide +kernel
theorem dL_law_1067 : decode cL_law 1067 = .ok (.iconst 1, 1) := by decide +kernel
theorem dL_law_1068 : decode cL_law 1068 = .ok (.iadd, 1) := by decide +kernel
theorem dL_law_1069 : decode cL_law 1069 = .ok (.iaload, 1) := by decide +kernel
theorem dL_law_1070 : decode cL_law 1070 = .ok (.aload_n 0, 1) := by decide +kernel
theorem dL_law_1071 : decode cL_law 1071 = .ok (.iload_n 3, 1) := by decide +kernel
theorem dL_law_1072 : decode cL_law 1072 = .ok (.iconst 2, 1) := by decide +kernel
theorem dL_law_1073 : decode cL_law 1073 = .ok (.iadd, 1) := by decide +kernel
theorem dL_law_1074 : decode cL_law 1074 = .ok (.iaload, 1) := by decide +kernel
theorem dL_law_1075 : decode cL_law 1075 = .ok (.invokevirtual 128, 3) := by decide +kernel
theorem dL_law_1078 : decode cL_law 1078 = .ok (.aload_n 2, 1) := by decide +kernel
theorem dL_law_1079 : decode cL_law 1079 = .ok (.aload_n 0, 1) := by decide +kernel
theorem dL_law_1080 : decode cL_law 1080 = .ok (.iload_n 3, 1) := by decide +kernel
theorem dL_law_1081 : decode cL_law 1081 = .ok (.iconst 1, 1) := by decide +kernel
theorem dL_law_1082 : decode cL_law 1082 = .ok (.iadd, 1) := by decide +kernel
theorem dL_law_1083 : decode cL_law 1083 = .ok (.iaload, 1) := by decide +kernel
theorem dL_law_1084 : decode cL_law 1084 = .ok (.aload_n 0, 1) := by decide +kernel
theorem dL_law_1085 : decode cL_law 1085 = .ok (.iload_n 3, 1) := by decide +kernel
theorem dL_law_1086 : decode cL_law 1086 = .ok (.iconst 2, 1) := by decide +kernel
theorem dL_law_1087 : decode cL_law 1087 = .ok (.iadd, 1) := by decide +kernel
theorem dL_law_1088 : decode cL_law 1088 = .ok (.iaload, 1) := by decide +kernel
theorem dL_law_1089 : decode cL_law 1089 = .ok (.invokevirtual 131, 3) := by decide +kernel
theorem dL_law_1092 : decode cL_law 1092 = .ok (.if_icmp .eq 209, 3) := by decide +kernel
theorem dL_law_1095 : decode cL_law 1095 = .ok (.iconst 0, 1) := by decide +kernel
theorem dL_law_1096 : decode cL_law 1096 = .ok (.ireturn, 1) := by decide +kernel
theorem dL_law_1097 : decode cL_law 1097 = .ok (.aload_n 1, 1) := by decide +kernel
theorem dL_law_1098 : decode cL_law 1098 = .ok (.aload_n 0, 1) := by decide +kernel
theorem dL_law_1099 : decode cL_law 1099 = .ok (.iload_n 3, 1) := by decide +kernel
theorem dL_law_1100 : decode cL_law 1100 = .ok (.iconst 1, 1) := by decide +kernel
theorem dL_law_1101 : decode cL_law 1101 = .ok (.iadd, 1) := by decide +kernel
theorem dL_law_1102 : decode cL_law 1102 = .ok (.iaload, 1) := by decide +kernel
theorem dL_law_1103 : decode cL_law 1103 = .ok (.invokevirtual 132, 3) := by decide +kernel
theorem dL_law_1106 : decode cL_law 1106 = .ok (.aload_n 2, 1) := by decide +kernel
theorem dL_law_1107 : decode cL_law 1107 = .ok (.aload_n 0, 1) := by decide +kernel
theorem dL_law_1108 : decode cL_law 1108 = .ok (.iload_n 3, 1) := by decide +kernel
theorem dL_law_1109 : decode cL_law 1109 = .ok (.iconst 1, 1) := by decide +kernel
theorem dL_law_1110 : decode cL_law 1110 = .ok (.iadd, 1) := by decide +kernel
theorem dL_law_1111 : decode cL_law 1111 = .ok (.iaload, 1) := by decide +kernel
theorem dL_law_1112 : decode cL_law 1112 = .ok (.invokevirtual 135, 3) := by decide +kernel
theorem dL_law_1115 : decode cL_law 1115 = .ok (.if_icmp .eq 186, 3) := by decide +kernel
theorem dL_law_1118 : decode cL_law 1118 = .ok (.iconst 0, 1) := by decide +kernel
theorem dL_law_1119 : decode cL_law 1119 = .ok (.ireturn, 1) := by decide +kernel
theorem dL_law_1120 : decode cL_law 1120 = .ok (.aload_n 1, 1) := by decide +kernel
theorem dL_law_1121 : decode cL_law 1121 = .ok (.aload_n 0, 1) := by decide +kernel
theorem dL_law_1122 : decode cL_law 1122 = .ok (.iload_n 3, 1) := by decide +kernel
theorem dL_law_1123 : decode cL_law 1123 = .ok (.iconst 1, 1) := by decide +kernel
theorem dL_law_1124 : decode cL_law 1124 = .ok (.iadd, 1) := by decide +kernel
theorem dL_law_1125 : decode cL_law 1125 = .ok (.iaload, 1) := by decide +kernel
theorem dL_law_1126 : decode cL_law 1126 = .ok (.aload_n 0, 1) := by decide +kernel
theorem dL_law_1127 : decode cL_law 1127 = .ok (.iload_n 3, 1) := by decide +kernel
theorem dL_law_1128 : decode cL_law 1128 = .ok (.iconst 2, 1) := by decide +kernel
theorem dL_law_1129 : decode cL_law 1129 = .ok (.iadd, 1) := by decide +kernel
theorem dL_law_1130 : decode cL_law 1130 = .ok (.iaload, 1) := by decide +kernel
theorem dL_law_1131 : decode cL_law 1131 = .ok (.invokevirtual 136, 3) := by decide +kernel
theorem dL_law_1134 : decode cL_law 1134 = .ok (.aload_n 2, 1) := by decide +kernel
theorem dL_law_1135 : decode cL_law 1135 = .ok (.aload_n 0, 1) := by decide +kernel
theorem dL_law_1136 : decode cL_law 1136 = .ok (.iload_n 3, 1) := by decide +kernel
theorem dL_law_1137 : decode cL_law 1137 = .ok (.iconst 1, 1) := by decide +kernel
theorem dL_law_1138 : decode cL_law 1138 = .ok (.iadd, 1) := by decide +kernel
theorem dL_law_1139 : decode cL_law 1139 = .ok (.iaload, 1) := by decide +kernel
theorem dL_law_1140 : decode cL_law 1140 = .ok (.aload_n 0, 1) := by decide +kernel
theorem dL_law_1141 : decode cL_law 1141 = .ok (.iload_n 3, 1) := by decide +kernel
theorem dL_law_1142 : decode cL_law 1142 = .ok (.iconst 2, 1) := by decide +kernel
theorem dL_law_1143 : decode cL_law 1143 = .ok (.iadd, 1) := by decide +kernel
theorem dL_law_1144 : decode cL_law 1144 = .ok (.iaload, 1) := by decide +kernel
theorem dL_law_1145 : decode cL_law 1145 = .ok (.invokevirtual 139, 3) := by decide +kernel
theorem dL_law_1148 : decode cL_law 1148 = .ok (.if_icmp .eq 153, 3) := by decide +kernel
theorem dL_law_1151 : decode cL_law 1151 = .ok (.iconst 0, 1) := by decide +kernel
theorem dL_law_1152 : decode cL_law 1152 = .ok (.ireturn, 1) := by decide +kernel
theorem dL_law_1153 : decode cL_law 1153 = .ok (.aload_n 1, 1) := by decide +kernel
theorem dL_law_1154 : decode cL_law 1154 = .ok (.aload_n 0, 1) := by decide +kernel
theorem dL_law_1155 : decode cL_law 1155 = .ok (.iload_n 3, 1) := by decide +kernel
theorem dL_law_1156 : decode cL_law 1156 = .ok (.iconst 1, 1) := by decide +kernel
theorem dL_law_1157 : decode cL_law 1157 = .ok (.iadd, 1) := by decide +kernel
theorem dL_law_1158 : decode cL_law 1158 = .ok (.iaload, 1) := by decide +kernel
theorem dL_law_1159 : decode cL_law 1159 = .ok (.aload_n 0, 1) := by decide +kernel
theorem dL_law_1160 : decode cL_law 1160 = .ok (.iload_n 3, 1) := by decide +kernel
theorem dL_law_1161 : decode cL_law 1161 = .ok (.iconst 2, 1) := by decide +kernel
theorem dL_law_1162 : decode cL_law 1162 = .ok (.iadd, 1) := by decide +kernel
theorem dL_law_1163 : decode cL_law 1163 = .ok (.iaload, 1) := by decide +kernel
theorem dL_law_1164 : decode cL_law 1164 = .ok (.invokevirtual 140, 3) := by decide +kernel
theorem dL_law_1167 : decode cL_law 1167 = .ok (.aload_n 2, 1) := by decide +kernel
theorem dL_law_1168 : decode cL_law 1168 = .ok (.aload_n 0, 1) := by decide +kernel
theorem dL_law_1169 : decode cL_law 1169 = .ok (.iload_n 3, 1) := by decide +kernel
theorem dL_law_1170 : decode cL_law 1170 = .ok (.iconst 1, 1) := by decide +kernel
theorem dL_law_1171 : decode cL_law 1171 = .ok (.iadd, 1) := by decide +kernel
theorem dL_law_1172 : decode cL_law 1172 = .ok (.iaload, 1) := by decide +kernel
theorem dL_law_1173 : decode cL_law 1173 = .ok (.aload_n 0, 1) := by decide +kernel
theorem dL_law_1174 : decode cL_law 1174 = .ok (.iload_n 3, 1) := by decide +kernel
theorem dL_law_1175 : decode cL_law 1175 = .ok (.iconst 2, 1) := by decide +kernel
theorem dL_law_1176 : decode cL_law 1176 = .ok (.iadd, 1) := by decide +kernel
theorem dL_law_1177 : decode cL_law 1177 = .ok (.iaload, 1) := by decide +kernel
theorem dL_law_1178 : decode cL_law 1178 = .ok (.invokevirtual 143, 3) := by decide +kernel
theorem dL_law_1181 : decode cL_law 1181 = .ok (.if_icmp .eq 120, 3) := by decide +kernel
theorem dL_law_1184 : decode cL_law 1184 = .ok (.iconst 0, 1) := by decide +kernel
theorem dL_law_1185 : decode cL_law 1185 = .ok (.ireturn, 1) := by decide +kernel
theorem dL_law_1186 : decode cL_law 1186 = .ok (.aload_n 1, 1) := by decide +kernel
theorem dL_law_1187 : decode cL_law 1187 = .ok (.aload_n 0, 1) := by decide +kernel
theorem dL_law_1188 : decode cL_law 1188 = .ok (.iload_n 3, 1) := by decide +kernel
theorem dL_law_1189 : decode cL_law 1189 = .ok (.iconst 1, 1) := by decide +kernel
theorem dL_law_1190 : decode cL_law 1190 = .ok (.iadd, 1) := by decide +kernel
theorem dL_law_1191 : decode cL_law 1191 = .ok (.iaload, 1) := by decide +kernel
theorem dL_law_1192 : decode cL_law 1192 = .ok (.aload_n 0, 1) := by decide +kernel
theorem dL_law_1193 : decode cL_law 1193 = .ok (.iload_n 3, 1) := by decide +kernel
theorem dL_law_1194 : decode cL_law 1194 = .ok (.iconst 2, 1) := by decide +kernel
theorem dL_law_1195 : decode cL_law 1195 = .ok (.iadd, 1) := by decide +kernel
theorem dL_law_1196 : decode cL_law 1196 = .ok (.iaload, 1) := by decide +kernel
theorem dL_law_1197 : decode cL_law 1197 = .ok (.invokevirtual 144, 3) := by decide +kernel
theorem dL_law_1200 : decode cL_law 1200 = .ok (.aload_n 2, 1) := by decide +kernel
theorem dL_law_1201 : decode cL_law 1201 = .ok (.aload_n 0, 1) := by decide +kernel
theorem dL_law_1202 : decode cL_law 1202 = .ok (.iload_n 3, 1) := by decide +kernel
theorem dL_law_1203 : decode cL_law 1203 = .ok (.iconst 1, 1) := by decide +kernel
theorem dL_law_1204 : decode cL_law 1204 = .ok (.iadd, 1) := by decide +kernel
theorem dL_law_1205 : decode cL_law 1205 = .ok (.iaload, 1) := by decide +kernel
theorem dL_law_1206 : decode cL_law 1206 = .ok (.aload_n 0, 1) := by decide +kernel
theorem dL_law_1207 : decode cL_law 1207 = .ok (.iload_n 3, 1) := by decide +kernel
theorem dL_law_1208 : decode cL_law 1208 = .ok (.iconst 2, 1) := by decide +kernel
theorem dL_law_1209 : decode cL_law 1209 = .ok (.iadd, 1) := by decide +kernel
theorem dL_law_1210 : decode cL_law 1210 = .ok (.iaload, 1) := by decide +kernel
theorem dL_law_1211 : decode cL_law 1211 = .ok (.invokevirtual 147, 3) := by decide +kernel
theorem dL_law_1214 : decode cL_law 1214 = .ok (.if_icmp .eq 87, 3) := by decide +kernel
theorem dL_law_1217 : decode cL_law 1217 = .ok (.iconst 0, 1) := by decide +kernel
theorem dL_law_1218 : decode cL_law 1218 = .ok (.ireturn, 1) := by decide +kernel
theorem dL_law_1219 : decode cL_law 1219 = .ok (.aload_n 1, 1) := by decide +kernel
theorem dL_law_1220 : decode cL_law 1220 = .ok (.aload_n 0, 1) := by decide +kernel
theorem dL_law_1221 : decode cL_law 1221 = .ok (.iload_n 3, 1) := by decide +kernel
theorem dL_law_1222 : decode cL_law 1222 = .ok (.iconst 1, 1) := by decide +kernel
theorem dL_law_1223 : decode cL_law 1223 = .ok (.iadd, 1) := by decide +kernel
theorem dL_law_1224 : decode cL_law 1224 = .ok (.iaload, 1) := by decide +kernel
theorem dL_law_1225 : decode cL_law 1225 = .ok (.invokevirtual 148, 3) := by decide +kernel
theorem dL_law_1228 : decode cL_law 1228 = .ok (.aload_n 2, 1) := by decide +kernel
theorem dL_law_1229 : decode cL_law 1229 = .ok (.aload_n 0, 1) := by decide +kernel
theorem dL_law_1230 : decode cL_law 1230 = .ok (.iload_n 3, 1) := by decide +kernel
theorem dL_law_1231 : decode cL_law 1231 = .ok (.iconst 1, 1) := by decide +kernel
theorem dL_law_1232 : decode cL_law 1232 = .ok (.iadd, 1) := by decide +kernel
theorem dL_law_1233 : decode cL_law 1233 = .ok (.iaload, 1) := by decide +kernel
theorem dL_law_1234 : decode cL_law 1234 = .ok (.invokevirtual 151, 3) := by decide +kernel
theorem dL_law_1237 : decode cL_law 1237 = .ok (.if_icmp .eq 64, 3) := by decide +kernel
theorem dL_law_1240 : decode cL_law 1240 = .ok (.iconst 0, 1) := by decide +kernel
theorem dL_law_1241 : decode cL_law 1241 = .ok (.ireturn, 1) := by decide +kernel
theorem dL_law_1242 : decode cL_law 1242 = .ok (.aload_n 1, 1) := by decide +kernel
theorem dL_law_1243 : decode cL_law 1243 = .ok (.invokevirtual 152, 3) := by decide +kernel
theorem dL_law_1246 : decode cL_law 1246 = .ok (.aload_n 2, 1) := by decide +kernel
theorem dL_law_1247 : decode cL_law 1247 = .ok (.invokevirtual 155, 3) := by decide +kernel
theorem dL_law_1250 : decode cL_law 1250 = .ok (.if_icmp .eq 51, 3) := by decide +kernel
theorem dL_law_1253 : decode cL_law 1253 = .ok (.iconst 0, 1) := by decide +kernel
theorem dL_law_1254 : decode cL_law 1254 = .ok (.ireturn, 1) := by decide +kernel
theorem dL_law_1255 : decode cL_law 1255 = .ok (.aload_n 1, 1) := by decide +kernel
theorem dL_law_1256 : decode cL_law 1256 = .ok (.aload_n 0, 1) := by decide +kernel
theorem dL_law_1257 : decode cL_law 1257 = .ok (.iload_n 3, 1) := by decide +kernel
theorem dL_law_1258 : decode cL_law 1258 = .ok (.iconst 1, 1) := by decide +kernel
theorem dL_law_1259 : decode cL_law 1259 = .ok (.iadd, 1) := by decide +kernel
theorem dL_law_1260 : decode cL_law 1260 = .ok (.iaload, 1) := by decide +kernel
theorem dL_law_1261 : decode cL_law 1261 = .ok (.invokevirtual 156, 3) := by decide +kernel
theorem dL_law_1264 : decode cL_law 1264 = .ok (.aload_n 2, 1) := by decide +kernel
theorem dL_law_1265 : decode cL_law 1265 = .ok (.aload_n 0, 1) := by decide +kernel
theorem dL_law_1266 : decode cL_law 1266 = .ok (.iload_n 3, 1) := by decide +kernel
theorem dL_law_1267 : decode cL_law 1267 = .ok (.iconst 1, 1) := by decide +kernel
theorem dL_law_1268 : decode cL_law 1268 = .ok (.iadd, 1) := by decide +kernel
theorem dL_law_1269 : decode cL_law 1269 = .ok (.iaload, 1) := by decide +kernel
theorem dL_law_1270 : decode cL_law 1270 = .ok (.invokevirtual 159, 3) := by decide +kernel
theorem dL_law_1273 : decode cL_law 1273 = .ok (.if_icmp .eq 28, 3) := by decide +kernel
theorem dL_law_1276 : decode cL_law 1276 = .ok (.iconst 0, 1) := by decide +kernel
theorem dL_law_1277 : decode cL_law 1277 = .ok (.ireturn, 1) := by decide +kernel
theorem dL_law_1278 : decode cL_law 1278 = .ok (.aload_n 1, 1) := by decide +kernel
theorem dL_law_1279 : decode cL_law 1279 = .ok (.aload_n 0, 1) := by decide +kernel
theorem dL_law_1280 : decode cL_law 1280 = .ok (.iload_n 3, 1) := by decide +kernel
theorem dL_law_1281 : decode cL_law 1281 = .ok (.iconst 1, 1) := by decide +kernel
theorem dL_law_1282 : decode cL_law 1282 = .ok (.iadd, 1) := by decide +kernel
theorem dL_law_1283 : decode cL_law 1283 = .ok (.iaload, 1) := by decide +kernel
theorem dL_law_1284 : decode cL_law 1284 = .ok (.invokevirtual 160, 3) := by decide +kernel
theorem dL_law_1287 : decode cL_law 1287 = .ok (.aload_n 2, 1) := by decide +kernel
theorem dL_law_1288 : decode cL_law 1288 = .ok (.aload_n 0, 1) := by decide +kernel
theorem dL_law_1289 : decode cL_law 1289 = .ok (.iload_n 3, 1) := by decide +kernel
theorem dL_law_1290 : decode cL_law 1290 = .ok (.iconst 1, 1) := by decide +kernel
theorem dL_law_1291 : decode cL_law 1291 = .ok (.iadd, 1) := by decide +kernel
theorem dL_law_1292 : decode cL_law 1292 = .ok (.iaload, 1) := by decide +kernel
theorem dL_law_1293 : decode cL_law 1293 = .ok (.invokevirtual 163, 3) := by decide +kernel
theorem dL_law_1296 : decode cL_law 1296 = .ok (.if_icmp .eq 5, 3) := by decide +kernel
theorem dL_law_1299 : decode cL_law 1299 = .ok (.iconst 0, 1) := by decide +kernel
theorem dL_law_1300 : decode cL_law 1300 = .ok (.ireturn, 1) := by decide +kernel
theorem dL_law_1301 : decode cL_law 1301 = .ok (.iinc 3 6, 3) := by decide +kernel
theorem dL_law_1304 : decode cL_law 1304 = .ok (.goto (-1286), 3) := by decide +kernel
theorem dL_law_1307 : decode cL_law 1307 = .ok (.iconst 1, 1) := by decide +kernel
theorem dL_law_1308 : decode cL_law 1308 = .ok (.ireturn, 1) := by decide +kernel
