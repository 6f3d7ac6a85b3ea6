theorem dX0_init_0 : decode cX0_init 0 = .ok (.aload_n 0, 1) := by decide +kernel
theorem dX0_init_1 : decode cX0_init 1 = .ok (.invokespecial 3, 3) := by decide +kernel
theorem dX0_init_4 : decode cX0_init 4 = .ok (.aload_n 0, 1) := by decide +kernel
theorem dX0_init_5 : decode cX0_init 5 = .ok (.sipush 144, 3) := by decide +kernel
theorem dX0_init_8 : decode cX0_init 8 = .ok (.newarray .int, 2) := by decide +kernel
theorem dX0_init_10 : decode cX0_init 10 = .ok (.putfield 9, 3) := by decide +kernel
theorem dX0_init_13 : decode cX0_init 13 = .ok (.aload_n 0, 1) := by decide +kernel
theorem dX0_init_14 : decode cX0_init 14 = .ok (.sipush 144, 3) := by decide +kernel
theorem dX0_init_17 : decode cX0_init 17 = .ok (.newarray .int, 2) := by decide +kernel
theorem dX0_init_19 : decode cX0_init 19 = .ok (.putfield 15, 3) := by decide +kernel
theorem dX0_init_22 : decode cX0_init 22 = .ok (.aload_n 0, 1) := by decide +kernel
theorem dX0_init_23 : decode cX0_init 23 = .ok (.sipush 144, 3) := by decide +kernel
theorem dX0_init_26 : decode cX0_init 26 = .ok (.newarray .int, 2) := by decide +kernel
theorem dX0_init_28 : decode cX0_init 28 = .ok (.putfield 18, 3) := by decide +kernel
theorem dX0_init_31 : decode cX0_init 31 = .ok (.aload_n 0, 1) := by decide +kernel
theorem dX0_init_32 : decode cX0_init 32 = .ok (.bipush 100, 2) := by decide +kernel
theorem dX0_init_34 : decode cX0_init 34 = .ok (.newarray .int, 2) := by decide +kernel
theorem dX0_init_36 : decode cX0_init 36 = .ok (.putfield 21, 3) := by decide +kernel
theorem dX0_init_39 : decode cX0_init 39 = .ok (.aload_n 0, 1) := by decide +kernel
theorem dX0_init_40 : decode cX0_init 40 = .ok (.new 24, 3) := by decide +kernel
theorem dX0_init_43 : decode cX0_init 43 = .ok (.dup, 1) := by decide +kernel
theorem dX0_init_44 : decode cX0_init 44 = .ok (.invokespecial 26, 3) := by decide +kernel
theorem dX0_init_47 : decode cX0_init 47 = .ok (.putfield 27, 3) := by decide +kernel
theorem dX0_init_50 : decode cX0_init 50 = .ok (.return_, 1) := by decide +kernel
theorem dX0_rise_0 : decode cX0_rise 0 = .ok (.aload_n 0, 1) := by decide +kernel
theorem dX0_rise_1 : decode cX0_rise 1 = .ok (.getfield 27, 3) := by decide +kernel
theorem dX0_rise_4 : decode cX0_rise 4 = .ok (.invokevirtual 31, 3) := by decide +kernel
theorem dX0_rise_7 : decode cX0_rise 7 = .ok (.aload_n 0, 1) := by decide +kernel
theorem dX0_rise_8 : decode cX0_rise 8 = .ok (.aload_n 1, 1) := by decide +kernel
theorem dX0_rise_9 : decode cX0_rise 9 = .ok (.invokevirtual 34, 3) := by decide +kernel
theorem dX0_rise_12 : decode cX0_rise 12 = .ok (.iconst 0, 1) := by decide +kernel
theorem dX0_rise_13 : decode cX0_rise 13 = .ok (.istore_n 2, 1) := by decide +kernel
theorem dX0_rise_14 : decode cX0_rise 14 = .ok (.iload_n 2, 1) := by decide +kernel
theorem dX0_rise_15 : decode cX0_rise 15 = .ok (.aload_n 1, 1) := by decide +kernel
theorem dX0_rise_16 : decode cX0_rise 16 = .ok (.getfield 38, 3) := by decide +kernel
theorem dX0_rise_19 : decode cX0_rise 19 = .ok (.if_icmp .ge 24, 3) := by decide +kernel
theorem dX0_rise_22 : decode cX0_rise 22 = .ok (.aload_n 1, 1) := by decide +kernel
theorem dX0_rise_23 : decode cX0_rise 23 = .ok (.getfield 44, 3) := by decide +kernel
theorem dX0_rise_26 : decode cX0_rise 26 = .ok (.iload_n 2, 1) := by decide +kernel
theorem dX0_rise_27 : decode cX0_rise 27 = .ok (.iaload, 1) := by decide +kernel
theorem dX0_rise_28 : decode cX0_rise 28 = .ok (.ifCond .le 9, 3) := by decide +kernel
theorem dX0_rise_31 : decode cX0_rise 31 = .ok (.aload_n 0, 1) := by decide +kernel
theorem dX0_rise_32 : decode cX0_rise 32 = .ok (.aload_n 1, 1) := by decide +kernel
theorem dX0_rise_33 : decode cX0_rise 33 = .ok (.iload_n 2, 1) := by decide +kernel
theorem dX0_rise_34 : decode cX0_rise 34 = .ok (.invokevirtual 47, 3) := by decide +kernel
theorem dX0_rise_37 : decode cX0_rise 37 = .ok (.iinc 2 1, 3) := by decide +kernel
theorem dX0_rise_40 : decode cX0_rise 40 = .ok (.goto (-26), 3) := by decide +kernel
theorem dX0_rise_43 : decode cX0_rise 43 = .ok (.iconst 1, 1) := by decide +kernel
theorem dX0_rise_44 : decode cX0_rise 44 = .ok (.istore_n 2, 1) := by decide +kernel
theorem dX0_rise_45 : decode cX0_rise 45 = .ok (.iload_n 2, 1) := by decide +kernel
theorem dX0_rise_46 : decode cX0_rise 46 = .ok (.aload_n 1, 1) := by decide +kernel
theorem dX0_rise_47 : decode cX0_rise 47 = .ok (.getfield 38, 3) := by decide +kernel
theorem dX0_rise_50 : decode cX0_rise 50 = .ok (.if_icmp .gt 60, 3) := by decide +kernel
theorem dX0_rise_53 : decode cX0_rise 53 = .ok (.aload_n 0, 1) := by decide +kernel
theorem dX0_rise_54 : decode cX0_rise 54 = .ok (.getfield 27, 3) := by decide +kernel
theorem dX0_rise_57 : decode cX0_rise 57 = .ok (.invokevirtual 51, 3) := by decide +kernel
theorem dX0_rise_60 : decode cX0_rise 60 = .ok (.istore_n 3, 1) := by decide +kernel
theorem dX0_rise_61 : decode cX0_rise 61 = .ok (.iload_n 3, 1) := by decide +kernel
theorem dX0_rise_62 : decode cX0_rise 62 = .ok (.iconst (-1), 1) := by decide +kernel
theorem dX0_rise_63 : decode cX0_rise 63 = .ok (.if_icmp .ne 4, 3) := by decide +kernel
theorem dX0_rise_66 : decode cX0_rise 66 = .ok (.return_, 1) := by decide +kernel
theorem dX0_rise_67 : decode cX0_rise 67 = .ok (.aload_n 0, 1) := by decide +kernel
theorem dX0_rise_68 : decode cX0_rise 68 = .ok (.getfield 18, 3) := by decide +kernel
theorem dX0_rise_71 : decode cX0_rise 71 = .ok (.iload_n 3, 1) := by decide +kernel
theorem dX0_rise_72 : decode cX0_rise 72 = .ok (.iload_n 2, 1) := by decide +kernel
theorem dX0_rise_73 : decode cX0_rise 73 = .ok (.iastore, 1) := by decide +kernel
theorem dX0_rise_74 : decode cX0_rise 74 = .ok (.aload_n 0, 1) := by decide +kernel
theorem dX0_rise_75 : decode cX0_rise 75 = .ok (.getfield 9, 3) := by decide +kernel
theorem dX0_rise_78 : decode cX0_rise 78 = .ok (.iload_n 3, 1) := by decide +kernel
theorem dX0_rise_79 : decode cX0_rise 79 = .ok (.aload_n 1, 1) := by decide +kernel
theorem dX0_rise_80 : decode cX0_rise 80 = .ok (.iload_n 3, 1) := by decide +kernel
theorem dX0_rise_81 : decode cX0_rise 81 = .ok (.aload_n 0, 1) := by decide +kernel
theorem dX0_rise_82 : decode cX0_rise 82 = .ok (.getfield 9, 3) := by decide +kernel
theorem dX0_rise_85 : decode cX0_rise 85 = .ok (.invokevirtual 55, 3) := by decide +kernel
theorem dX0_rise_88 : decode cX0_rise 88 = .ok (.iastore, 1) := by decide +kernel
theorem dX0_rise_89 : decode cX0_rise 89 = .ok (.aload_n 0, 1) := by decide +kernel
theorem dX0_rise_90 : decode cX0_rise 90 = .ok (.getfield 9, 3) := by decide +kernel
theorem dX0_rise_93 : decode cX0_rise 93 = .ok (.iload_n 3, 1) := by decide +kernel
theorem dX0_rise_94 : decode cX0_rise 94 = .ok (.iaload, 1) := by decide +kernel
theorem dX0_rise_95 : decode cX0_rise 95 = .ok (.ifCond .le 9, 3) := by decide +kernel
theorem dX0_rise_98 : decode cX0_rise 98 = .ok (.aload_n 0, 1) := by decide +kernel
theorem dX0_rise_99 : decode cX0_rise 99 = .ok (.aload_n 1, 1) := by decide +kernel
theorem dX0_rise_100 : decode cX0_rise 100 = .ok (.iload_n 3, 1) := by decide +kernel
theorem dX0_rise_101 : decode cX0_rise 101 = .ok (.invokevirtual 47, 3) := by decide +kernel
theorem dX0_rise_104 : decode cX0_rise 104 = .ok (.iinc 2 1, 3) := by decide +kernel
theorem dX0_rise_107 : decode cX0_rise 107 = .ok (.goto (-62), 3) := by decide +kernel
theorem dX0_rise_110 : decode cX0_rise 110 = .ok (.return_, 1) := by decide +kernel
theorem dX0_startAtMarks_0 : decode cX0_startAtMarks 0 = .ok (.iconst 0, 1) := by decide +kernel
theorem dX0_startAtMarks_1 : decode cX0_startAtMarks 1 = .ok (.istore_n 2, 1) := by decide +kernel
theorem dX0_startAtMarks_2 : decode cX0_startAtMarks 2 = .ok (.iload_n 2, 1) := by decide +kernel
theorem dX0_startAtMarks_3 : decode cX0_startAtMarks 3 = .ok (.aload_n 1, 1) := by decide +kernel
theorem dX0_startAtMarks_4 : decode cX0_startAtMarks 4 = .ok (.getfield 38, 3) := by decide +kernel
theorem dX0_startAtMarks_7 : decode cX0_startAtMarks 7 = .ok (.if_icmp .ge 82, 3) := by decide +kernel
theorem dX0_startAtMarks_10 : decode cX0_startAtMarks 10 = .ok (.aload_n 1, 1) := by decide +kernel
theorem dX0_startAtMarks_11 : decode cX0_startAtMarks 11 = .ok (.getfield 44, 3) := by decide +kernel
theorem dX0_startAtMarks_14 : decode cX0_startAtMarks 14 = .ok (.iload_n 2, 1) := by decide +kernel
theorem dX0_startAtMarks_15 : decode cX0_startAtMarks 15 = .ok (.iaload, 1) := by decide +kernel
theorem dX0_startAtMarks_16 : decode cX0_startAtMarks 16 = .ok (.ifCond .le 7, 3) := by decide +kernel
theorem dX0_startAtMarks_19 : decode cX0_startAtMarks 19 = .ok (.iconst 1, 1) := by decide +kernel
theorem dX0_startAtMarks_20 : decode cX0_startAtMarks 20 = .ok (.goto 4, 3) := by decide +kernel
theorem dX0_startAtMarks_23 : decode cX0_startAtMarks 23 = .ok (.iconst 0, 1) := by decide +kernel
theorem dX0_startAtMarks_24 : decode cX0_startAtMarks 24 = .ok (.istore_n 3, 1) := by decide +kernel
theorem dX0_startAtMarks_25 : decode cX0_startAtMarks 25 = .ok (.aload_n 0, 1) := by decide +kernel
theorem dX0_startAtMarks_26 : decode cX0_startAtMarks 26 = .ok (.getfield 9, 3) := by decide +kernel
theorem dX0_startAtMarks_29 : decode cX0_startAtMarks 29 = .ok (.iload_n 2, 1) := by decide +kernel
theorem dX0_startAtMarks_30 : decode cX0_startAtMarks 30 = .ok (.iload_n 3, 1) := by decide +kernel
theorem dX0_startAtMarks_31 : decode cX0_startAtMarks 31 = .ok (.ifCond .eq 12, 3) := by decide +kernel
theorem dX0_startAtMarks_34 : decode cX0_startAtMarks 34 = .ok (.aload_n 1, 1) := by decide +kernel
theorem dX0_startAtMarks_35 : decode cX0_startAtMarks 35 = .ok (.getfield 44, 3) := by decide +kernel
theorem dX0_startAtMarks_38 : decode cX0_startAtMarks 38 = .ok (.iload_n 2, 1) := by decide +kernel
theorem dX0_startAtMarks_39 : decode cX0_startAtMarks 39 = .ok (.iaload, 1) := by decide +kernel
theorem dX0_startAtMarks_40 : decode cX0_startAtMarks 40 = .ok (.goto 5, 3) := by decide +kernel
theorem dX0_startAtMarks_43 : decode cX0_startAtMarks 43 = .ok (.bipush (-6), 2) := by decide +kernel
theorem dX0_startAtMarks_45 : decode cX0_startAtMarks 45 = .ok (.iastore, 1) := by decide +kernel
theorem dX0_startAtMarks_46 : decode cX0_startAtMarks 46 = .ok (.aload_n 0, 1) := by decide +kernel
theorem dX0_startAtMarks_47 : decode cX0_startAtMarks 47 = .ok (.getfield 15, 3) := by decide +kernel
theorem dX0_startAtMarks_50 : decode cX0_startAtMarks 50 = .ok (.iload_n 2, 1) := by decide +kernel
theorem dX0_startAtMarks_51 : decode cX0_startAtMarks 51 = .ok (.iload_n 3, 1) := by decide +kernel
theorem dX0_startAtMarks_52 : decode cX0_startAtMarks 52 = .ok (.ifCond .eq 12, 3) := by decide +kernel
theorem dX0_startAtMarks_55 : decode cX0_startAtMarks 55 = .ok (.aload_n 1, 1) := by decide +kernel
theorem dX0_startAtMarks_56 : decode cX0_startAtMarks 56 = .ok (.getfield 59, 3) := by decide +kernel
theorem dX0_startAtMarks_59 : decode cX0_startAtMarks 59 = .ok (.iload_n 2, 1) := by decide +kernel
theorem dX0_startAtMarks_60 : decode cX0_startAtMarks 60 = .ok (.iaload, 1) := by decide +kernel
theorem dX0_startAtMarks_61 : decode cX0_startAtMarks 61 = .ok (.goto 5, 3) := by decide +kernel
theorem dX0_startAtMarks_64 : decode cX0_startAtMarks 64 = .ok (.bipush (-6), 2) := by decide +kernel
theorem dX0_startAtMarks_66 : decode cX0_startAtMarks 66 = .ok (.iastore, 1) := by decide +kernel
theorem dX0_startAtMarks_67 : decode cX0_startAtMarks 67 = .ok (.aload_n 0, 1) := by decide +kernel
theorem dX0_startAtMarks_68 : decode cX0_startAtMarks 68 = .ok (.getfield 18, 3) := by decide +kernel
theorem dX0_startAtMarks_71 : decode cX0_startAtMarks 71 = .ok (.iload_n 2, 1) := by decide +kernel
theorem dX0_startAtMarks_72 : decode cX0_startAtMarks 72 = .ok (.iload_n 3, 1) := by decide +kernel
theorem dX0_startAtMarks_73 : decode cX0_startAtMarks 73 = .ok (.ifCond .eq 7, 3) := by decide +kernel
theorem dX0_startAtMarks_76 : decode cX0_startAtMarks 76 = .ok (.iconst 0, 1) := by decide +kernel
theorem dX0_startAtMarks_77 : decode cX0_startAtMarks 77 = .ok (.goto 5, 3) := by decide +kernel
theorem dX0_startAtMarks_80 : decode cX0_startAtMarks 80 = .ok (.bipush (-6), 2) := by decide +kernel
theorem dX0_startAtMarks_82 : decode cX0_startAtMarks 82 = .ok (.iastore, 1) := by decide +kernel
theorem dX0_startAtMarks_83 : decode cX0_startAtMarks 83 = .ok (.iinc 2 1, 3) := by decide +kernel
theorem dX0_startAtMarks_86 : decode cX0_startAtMarks 86 = .ok (.goto (-84), 3) := by decide +kernel
theorem dX0_startAtMarks_89 : decode cX0_startAtMarks 89 = .ok (.return_, 1) := by decide +kernel
theorem dX0_lineUpAround_0 : decode cX0_lineUpAround 0 = .ok (.iconst 0, 1) := by decide +kernel
theorem dX0_lineUpAround_1 : decode cX0_lineUpAround 1 = .ok (.istore_n 3, 1) := by decide +kernel
theorem dX0_lineUpAround_2 : decode cX0_lineUpAround 2 = .ok (.iload_n 3, 1) := by decide +kernel
theorem dX0_lineUpAround_3 : decode cX0_lineUpAround 3 = .ok (.iconst 4, 1) := by decide +kernel
theorem dX0_lineUpAround_4 : decode cX0_lineUpAround 4 = .ok (.if_icmp .ge 74, 3) := by decide +kernel
theorem dX0_lineUpAround_7 : decode cX0_lineUpAround 7 = .ok (.aload_n 1, 1) := by decide +kernel
theorem dX0_lineUpAround_8 : decode cX0_lineUpAround 8 = .ok (.iload_n 2, 1) := by decide +kernel
theorem dX0_lineUpAround_9 : decode cX0_lineUpAround 9 = .ok (.iload_n 3, 1) := by decide +kernel
theorem dX0_lineUpAround_10 : decode cX0_lineUpAround 10 = .ok (.invokevirtual 62, 3) := by decide +kernel
theorem dX0_lineUpAround_13 : decode cX0_lineUpAround 13 = .ok (.istore 4, 2) := by decide +kernel
theorem dX0_lineUpAround_15 : decode cX0_lineUpAround 15 = .ok (.iload 4, 2) := by decide +kernel
theorem dX0_lineUpAround_17 : decode cX0_lineUpAround 17 = .ok (.iconst (-1), 1) := by decide +kernel
theorem dX0_lineUpAround_18 : decode cX0_lineUpAround 18 = .ok (.if_icmp .eq 54, 3) := by decide +kernel
theorem dX0_lineUpAround_21 : decode cX0_lineUpAround 21 = .ok (.aload_n 0, 1) := by decide +kernel
theorem dX0_lineUpAround_22 : decode cX0_lineUpAround 22 = .ok (.getfield 15, 3) := by decide +kernel
theorem dX0_lineUpAround_25 : decode cX0_lineUpAround 25 = .ok (.iload 4, 2) := by decide +kernel
theorem dX0_lineUpAround_27 : decode cX0_lineUpAround 27 = .ok (.iaload, 1) := by decide +kernel
theorem dX0_lineUpAround_28 : decode cX0_lineUpAround 28 = .ok (.bipush (-6), 2) := by decide +kernel
theorem dX0_lineUpAround_30 : decode cX0_lineUpAround 30 = .ok (.if_icmp .ne 42, 3) := by decide +kernel
theorem dX0_lineUpAround_33 : decode cX0_lineUpAround 33 = .ok (.aload_n 0, 1) := by decide +kernel
theorem dX0_lineUpAround_34 : decode cX0_lineUpAround 34 = .ok (.getfield 15, 3) := by decide +kernel
theorem dX0_lineUpAround_37 : decode cX0_lineUpAround 37 = .ok (.iload 4, 2) := by decide +kernel
theorem dX0_lineUpAround_39 : decode cX0_lineUpAround 39 = .ok (.aload_n 1, 1) := by decide +kernel
theorem dX0_lineUpAround_40 : decode cX0_lineUpAround 40 = .ok (.getfield 59, 3) := by decide +kernel
theorem dX0_lineUpAround_43 : decode cX0_lineUpAround 43 = .ok (.iload 4, 2) := by decide +kernel
theorem dX0_lineUpAround_45 : decode cX0_lineUpAround 45 = .ok (.iaload, 1) := by decide +kernel
theorem dX0_lineUpAround_46 : decode cX0_lineUpAround 46 = .ok (.aload_n 0, 1) := by decide +kernel
theorem dX0_lineUpAround_47 : decode cX0_lineUpAround 47 = .ok (.getfield 15, 3) := by decide +kernel
theorem dX0_lineUpAround_50 : decode cX0_lineUpAround 50 = .ok (.iload_n 2, 1) := by decide +kernel
theorem dX0_lineUpAround_51 : decode cX0_lineUpAround 51 = .ok (.iaload, 1) := by decide +kernel
theorem dX0_lineUpAround_52 : decode cX0_lineUpAround 52 = .ok (.invokestatic 66, 3) := by decide +kernel
theorem dX0_lineUpAround_55 : decode cX0_lineUpAround 55 = .ok (.iastore, 1) := by decide +kernel
theorem dX0_lineUpAround_56 : decode cX0_lineUpAround 56 = .ok (.aload_n 0, 1) := by decide +kernel
theorem dX0_lineUpAround_57 : decode cX0_lineUpAround 57 = .ok (.getfield 27, 3) := by decide +kernel
theorem dX0_lineUpAround_60 : decode cX0_lineUpAround 60 = .ok (.iload 4, 2) := by decide +kernel
theorem dX0_lineUpAround_62 : decode cX0_lineUpAround 62 = .ok (.aload_n 0, 1) := by decide +kernel
theorem dX0_lineUpAround_63 : decode cX0_lineUpAround 63 = .ok (.getfield 15, 3) := by decide +kernel
theorem dX0_lineUpAround_66 : decode cX0_lineUpAround 66 = .ok (.iload 4, 2) := by decide +kernel
theorem dX0_lineUpAround_68 : decode cX0_lineUpAround 68 = .ok (.iaload, 1) := by decide +kernel
theorem dX0_lineUpAround_69 : decode cX0_lineUpAround 69 = .ok (.invokevirtual 71, 3) := by decide +kernel
theorem dX0_lineUpAround_72 : decode cX0_lineUpAround 72 = .ok (.iinc 3 1, 3) := by decide +kernel
theorem dX0_lineUpAround_75 : decode cX0_lineUpAround 75 = .ok (.goto (-73), 3) := by decide +kernel
theorem dX0_lineUpAround_78 : decode cX0_lineUpAround 78 = .ok (.return_, 1) := by decide +kernel
theorem dX0_countBasins_0 : decode cX0_countBasins 0 = .ok (.iconst 0, 1) := by decide +kernel
theorem dX0_countBasins_1 : decode cX0_countBasins 1 = .ok (.istore_n 2, 1) := by decide +kernel
theorem dX0_countBasins_2 : decode cX0_countBasins 2 = .ok (.aload_n 0, 1) := by decide +kernel
theorem dX0_countBasins_3 : decode cX0_countBasins 3 = .ok (.getfield 21, 3) := by decide +kernel
theorem dX0_countBasins_6 : decode cX0_countBasins 6 = .ok (.iconst 0, 1) := by decide +kernel
theorem dX0_countBasins_7 : decode cX0_countBasins 7 = .ok (.invokestatic 75, 3) := by decide +kernel
theorem dX0_countBasins_10 : decode cX0_countBasins 10 = .ok (.iconst 0, 1) := by decide +kernel
theorem dX0_countBasins_11 : decode cX0_countBasins 11 = .ok (.istore_n 3, 1) := by decide +kernel
theorem dX0_countBasins_12 : decode cX0_countBasins 12 = .ok (.iload_n 3, 1) := by decide +kernel
theorem dX0_countBasins_13 : decode cX0_countBasins 13 = .ok (.aload_n 1, 1) := by decide +kernel
theorem dX0_countBasins_14 : decode cX0_countBasins 14 = .ok (.getfield 38, 3) := by decide +kernel
theorem dX0_countBasins_17 : decode cX0_countBasins 17 = .ok (.if_icmp .ge 43, 3) := by decide +kernel
theorem dX0_countBasins_20 : decode cX0_countBasins 20 = .ok (.aload_n 1, 1) := by decide +kernel
theorem dX0_countBasins_21 : decode cX0_countBasins 21 = .ok (.getfield 44, 3) := by decide +kernel
theorem dX0_countBasins_24 : decode cX0_countBasins 24 = .ok (.iload_n 3, 1) := by decide +kernel
theorem dX0_countBasins_25 : decode cX0_countBasins 25 = .ok (.iaload, 1) := by decide +kernel
theorem dX0_countBasins_26 : decode cX0_countBasins 26 = .ok (.istore 4, 2) := by decide +kernel
theorem dX0_countBasins_28 : decode cX0_countBasins 28 = .ok (.iload 4, 2) := by decide +kernel
theorem dX0_countBasins_30 : decode cX0_countBasins 30 = .ok (.ifCond .le 24, 3) := by decide +kernel
theorem dX0_countBasins_33 : decode cX0_countBasins 33 = .ok (.aload_n 0, 1) := by decide +kernel
theorem dX0_countBasins_34 : decode cX0_countBasins 34 = .ok (.getfield 21, 3) := by decide +kernel
theorem dX0_countBasins_37 : decode cX0_countBasins 37 = .ok (.iload 4, 2) := by decide +kernel
theorem dX0_countBasins_39 : decode cX0_countBasins 39 = .ok (.iaload, 1) := by decide +kernel
theorem dX0_countBasins_40 : decode cX0_countBasins 40 = .ok (.ifCond .ne 14, 3) := by decide +kernel
theorem dX0_countBasins_43 : decode cX0_countBasins 43 = .ok (.aload_n 0, 1) := by decide +kernel
theorem dX0_countBasins_44 : decode cX0_countBasins 44 = .ok (.getfield 21, 3) := by decide +kernel
theorem dX0_countBasins_47 : decode cX0_countBasins 47 = .ok (.iload 4, 2) := by decide +kernel
theorem dX0_countBasins_49 : decode cX0_countBasins 49 = .ok (.iconst 1, 1) := by decide +kernel
theorem dX0_countBasins_50 : decode cX0_countBasins 50 = .ok (.iastore, 1) := by decide +kernel
theorem dX0_countBasins_51 : decode cX0_countBasins 51 = .ok (.iinc 2 1, 3) := by decide +kernel
theorem dX0_countBasins_54 : decode cX0_countBasins 54 = .ok (.iinc 3 1, 3) := by decide +kernel
theorem dX0_countBasins_57 : decode cX0_countBasins 57 = .ok (.goto (-45), 3) := by decide +kernel
theorem dX0_countBasins_60 : decode cX0_countBasins 60 = .ok (.iload_n 2, 1) := by decide +kernel
theorem dX0_countBasins_61 : decode cX0_countBasins 61 = .ok (.ireturn, 1) := by decide +kernel
theorem dX0_greatestLevel_0 : decode cX0_greatestLevel 0 = .ok (.bipush (-6), 2) := by decide +kernel
theorem dX0_greatestLevel_2 : decode cX0_greatestLevel 2 = .ok (.istore_n 2, 1) := by decide +kernel
theorem dX0_greatestLevel_3 : decode cX0_greatestLevel 3 = .ok (.iconst 0, 1) := by decide +kernel
theorem dX0_greatestLevel_4 : decode cX0_greatestLevel 4 = .ok (.istore_n 3, 1) := by decide +kernel
theorem dX0_greatestLevel_5 : decode cX0_greatestLevel 5 = .ok (.iload_n 3, 1) := by decide +kernel
theorem dX0_greatestLevel_6 : decode cX0_greatestLevel 6 = .ok (.aload_n 1, 1) := by decide +kernel
theorem dX0_greatestLevel_7 : decode cX0_greatestLevel 7 = .ok (.getfield 38, 3) := by decide +kernel
theorem dX0_greatestLevel_10 : decode cX0_greatestLevel 10 = .ok (.if_icmp .ge 20, 3) := by decide +kernel
theorem dX0_greatestLevel_13 : decode cX0_greatestLevel 13 = .ok (.iload_n 2, 1) := by decide +kernel
theorem dX0_greatestLevel_14 : decode cX0_greatestLevel 14 = .ok (.aload_n 0, 1) := by decide +kernel
theorem dX0_greatestLevel_15 : decode cX0_greatestLevel 15 = .ok (.getfield 15, 3) := by decide +kernel
theorem dX0_greatestLevel_18 : decode cX0_greatestLevel 18 = .ok (.iload_n 3, 1) := by decide +kernel
theorem dX0_greatestLevel_19 : decode cX0_greatestLevel 19 = .ok (.iaload, 1) := by decide +kernel
theorem dX0_greatestLevel_20 : decode cX0_greatestLevel 20 = .ok (.invokestatic 66, 3) := by decide +kernel
theorem dX0_greatestLevel_23 : decode cX0_greatestLevel 23 = .ok (.istore_n 2, 1) := by decide +kernel
theorem dX0_greatestLevel_24 : decode cX0_greatestLevel 24 = .ok (.iinc 3 1, 3) := by decide +kernel
theorem dX0_greatestLevel_27 : decode cX0_greatestLevel 27 = .ok (.goto (-22), 3) := by decide +kernel
theorem dX0_greatestLevel_30 : decode cX0_greatestLevel 30 = .ok (.iload_n 2, 1) := by decide +kernel
theorem dX0_greatestLevel_31 : decode cX0_greatestLevel 31 = .ok (.ireturn, 1) := by decide +kernel
theorem dX1_init_0 : decode cX1_init 0 = .ok (.aload_n 0, 1) := by decide +kernel
theorem dX1_init_1 : decode cX1_init 1 = .ok (.invokespecial 3, 3) := by decide +kernel
theorem dX1_init_4 : decode cX1_init 4 = .ok (.aload_n 0, 1) := by decide +kernel
theorem dX1_init_5 : decode cX1_init 5 = .ok (.iconst 0, 1) := by decide +kernel
theorem dX1_init_6 : decode cX1_init 6 = .ok (.putfield 9, 3) := by decide +kernel
theorem dX1_init_9 : decode cX1_init 9 = .ok (.aload_n 0, 1) := by decide +kernel
theorem dX1_init_10 : decode cX1_init 10 = .ok (.iconst 0, 1) := by decide +kernel
theorem dX1_init_11 : decode cX1_init 11 = .ok (.putfield 15, 3) := by decide +kernel
theorem dX1_init_14 : decode cX1_init 14 = .ok (.aload_n 0, 1) := by decide +kernel
theorem dX1_init_15 : decode cX1_init 15 = .ok (.iconst 0, 1) := by decide +kernel
theorem dX1_init_16 : decode cX1_init 16 = .ok (.putfield 19, 3) := by decide +kernel
theorem dX1_init_19 : decode cX1_init 19 = .ok (.aload_n 0, 1) := by decide +kernel
theorem dX1_init_20 : decode cX1_init 20 = .ok (.iconst 0, 1) := by decide +kernel
theorem dX1_init_21 : decode cX1_init 21 = .ok (.putfield 22, 3) := by decide +kernel
theorem dX1_init_24 : decode cX1_init 24 = .ok (.aload_n 0, 1) := by decide +kernel
theorem dX1_init_25 : decode cX1_init 25 = .ok (.iconst 0, 1) := by decide +kernel
theorem dX1_init_26 : decode cX1_init 26 = .ok (.putfield 25, 3) := by decide +kernel
theorem dX1_init_29 : decode cX1_init 29 = .ok (.aload_n 0, 1) := by decide +kernel
theorem dX1_init_30 : decode cX1_init 30 = .ok (.sipush 144, 3) := by decide +kernel
theorem dX1_init_33 : decode cX1_init 33 = .ok (.newarray .int, 2) := by decide +kernel
theorem dX1_init_35 : decode cX1_init 35 = .ok (.putfield 28, 3) := by decide +kernel
theorem dX1_init_38 : decode cX1_init 38 = .ok (.aload_n 0, 1) := by decide +kernel
theorem dX1_init_39 : decode cX1_init 39 = .ok (.sipush 144, 3) := by decide +kernel
theorem dX1_init_42 : decode cX1_init 42 = .ok (.newarray .int, 2) := by decide +kernel
theorem dX1_init_44 : decode cX1_init 44 = .ok (.putfield 32, 3) := by decide +kernel
theorem dX1_init_47 : decode cX1_init 47 = .ok (.return_, 1) := by decide +kernel
theorem dX1_keep_0 : decode cX1_keep 0 = .ok (.aload_n 0, 1) := by decide +kernel
theorem dX1_keep_1 : decode cX1_keep 1 = .ok (.iconst 1, 1) := by decide +kernel
theorem dX1_keep_2 : decode cX1_keep 2 = .ok (.putfield 9, 3) := by decide +kernel
theorem dX1_keep_5 : decode cX1_keep 5 = .ok (.aload_n 0, 1) := by decide +kernel
theorem dX1_keep_6 : decode cX1_keep 6 = .ok (.iload_n 2, 1) := by decide +kernel
theorem dX1_keep_7 : decode cX1_keep 7 = .ok (.putfield 15, 3) := by decide +kernel
theorem dX1_keep_10 : decode cX1_keep 10 = .ok (.aload_n 0, 1) := by decide +kernel
theorem dX1_keep_11 : decode cX1_keep 11 = .ok (.iload_n 3, 1) := by decide +kernel
theorem dX1_keep_12 : decode cX1_keep 12 = .ok (.putfield 19, 3) := by decide +kernel
theorem dX1_keep_15 : decode cX1_keep 15 = .ok (.aload_n 0, 1) := by decide +kernel
theorem dX1_keep_16 : decode cX1_keep 16 = .ok (.aload_n 1, 1) := by decide +kernel
theorem dX1_keep_17 : decode cX1_keep 17 = .ok (.getfield 35, 3) := by decide +kernel
theorem dX1_keep_20 : decode cX1_keep 20 = .ok (.putfield 22, 3) := by decide +kernel
theorem dX1_keep_23 : decode cX1_keep 23 = .ok (.aload_n 0, 1) := by decide +kernel
theorem dX1_keep_24 : decode cX1_keep 24 = .ok (.aload_n 1, 1) := by decide +kernel
theorem dX1_keep_25 : decode cX1_keep 25 = .ok (.getfield 38, 3) := by decide +kernel
theorem dX1_keep_28 : decode cX1_keep 28 = .ok (.putfield 25, 3) := by decide +kernel
theorem dX1_keep_31 : decode cX1_keep 31 = .ok (.aload_n 1, 1) := by decide +kernel
theorem dX1_keep_32 : decode cX1_keep 32 = .ok (.getfield 39, 3) := by decide +kernel
theorem dX1_keep_35 : decode cX1_keep 35 = .ok (.iconst 0, 1) := by decide +kernel
theorem dX1_keep_36 : decode cX1_keep 36 = .ok (.aload_n 0, 1) := by decide +kernel
theorem dX1_keep_37 : decode cX1_keep 37 = .ok (.getfield 28, 3) := by decide +kernel
theorem dX1_keep_40 : decode cX1_keep 40 = .ok (.iconst 0, 1) := by decide +kernel
theorem dX1_keep_41 : decode cX1_keep 41 = .ok (.sipush 144, 3) := by decide +kernel
theorem dX1_keep_44 : decode cX1_keep 44 = .ok (.invokestatic 40, 3) := by decide +kernel
theorem dX1_keep_47 : decode cX1_keep 47 = .ok (.aload_n 1, 1) := by decide +kernel
theorem dX1_keep_48 : decode cX1_keep 48 = .ok (.getfield 46, 3) := by decide +kernel
theorem dX1_keep_51 : decode cX1_keep 51 = .ok (.iconst 0, 1) := by decide +kernel
theorem dX1_keep_52 : decode cX1_keep 52 = .ok (.aload_n 0, 1) := by decide +kernel
theorem dX1_keep_53 : decode cX1_keep 53 = .ok (.getfield 32, 3) := by decide +kernel
theorem dX1_keep_56 : decode cX1_keep 56 = .ok (.iconst 0, 1) := by decide +kernel
theorem dX1_keep_57 : decode cX1_keep 57 = .ok (.sipush 144, 3) := by decide +kernel
theorem dX1_keep_60 : decode cX1_keep 60 = .ok (.invokestatic 40, 3) := by decide +kernel
theorem dX1_keep_63 : decode cX1_keep 63 = .ok (.return_, 1) := by decide +kernel
theorem dX1_giveBack_0 : decode cX1_giveBack 0 = .ok (.aload_n 1, 1) := by decide +kernel
theorem dX1_giveBack_1 : decode cX1_giveBack 1 = .ok (.aload_n 0, 1) := by decide +kernel
theorem dX1_giveBack_2 : decode cX1_giveBack 2 = .ok (.getfield 22, 3) := by decide +kernel
theorem dX1_giveBack_5 : decode cX1_giveBack 5 = .ok (.aload_n 0, 1) := by decide +kernel
theorem dX1_giveBack_6 : decode cX1_giveBack 6 = .ok (.getfield 25, 3) := by decide +kernel
theorem dX1_giveBack_9 : decode cX1_giveBack 9 = .ok (.invokevirtual 47, 3) := by decide +kernel
theorem dX1_giveBack_12 : decode cX1_giveBack 12 = .ok (.aload_n 0, 1) := by decide +kernel
theorem dX1_giveBack_13 : decode cX1_giveBack 13 = .ok (.getfield 28, 3) := by decide +kernel
theorem dX1_giveBack_16 : decode cX1_giveBack 16 = .ok (.iconst 0, 1) := by decide +kernel
theorem dX1_giveBack_17 : decode cX1_giveBack 17 = .ok (.aload_n 1, 1) := by decide +kernel
theorem dX1_giveBack_18 : decode cX1_giveBack 18 = .ok (.getfield 39, 3) := by decide +kernel
theorem dX1_giveBack_21 : decode cX1_giveBack 21 = .ok (.iconst 0, 1) := by decide +kernel
theorem dX1_giveBack_22 : decode cX1_giveBack 22 = .ok (.sipush 144, 3) := by decide +kernel
theorem dX1_giveBack_25 : decode cX1_giveBack 25 = .ok (.invokestatic 40, 3) := by decide +kernel
theorem dX1_giveBack_28 : decode cX1_giveBack 28 = .ok (.aload_n 0, 1) := by decide +kernel
theorem dX1_giveBack_29 : decode cX1_giveBack 29 = .ok (.getfield 32, 3) := by decide +kernel
theorem dX1_giveBack_32 : decode cX1_giveBack 32 = .ok (.iconst 0, 1) := by decide +kernel
theorem dX1_giveBack_33 : decode cX1_giveBack 33 = .ok (.aload_n 1, 1) := by decide +kernel
theorem dX1_giveBack_34 : decode cX1_giveBack 34 = .ok (.getfield 46, 3) := by decide +kernel
theorem dX1_giveBack_37 : decode cX1_giveBack 37 = .ok (.iconst 0, 1) := by decide +kernel
theorem dX1_giveBack_38 : decode cX1_giveBack 38 = .ok (.sipush 144, 3) := by decide +kernel
theorem dX1_giveBack_41 : decode cX1_giveBack 41 = .ok (.invokestatic 40, 3) := by decide +kernel
theorem dX1_giveBack_44 : decode cX1_giveBack 44 = .ok (.return_, 1) := by decide +kernel
theorem dX2_init_0 : decode cX2_init 0 = .ok (.aload_n 0, 1) := by decide +kernel
theorem dX2_init_1 : decode cX2_init 1 = .ok (.invokespecial 3, 3) := by decide +kernel
theorem dX2_init_4 : decode cX2_init 4 = .ok (.aload_n 0, 1) := by decide +kernel
theorem dX2_init_5 : decode cX2_init 5 = .ok (.bipush 100, 2) := by decide +kernel
theorem dX2_init_7 : decode cX2_init 7 = .ok (.newarray .int, 2) := by decide +kernel
theorem dX2_init_9 : decode cX2_init 9 = .ok (.putfield 9, 3) := by decide +kernel
theorem dX2_init_12 : decode cX2_init 12 = .ok (.aload_n 0, 1) := by decide +kernel
theorem dX2_init_13 : decode cX2_init 13 = .ok (.bipush 100, 2) := by decide +kernel
theorem dX2_init_15 : decode cX2_init 15 = .ok (.newarray .int, 2) := by decide +kernel
theorem dX2_init_17 : decode cX2_init 17 = .ok (.putfield 15, 3) := by decide +kernel
theorem dX2_init_20 : decode cX2_init 20 = .ok (.aload_n 0, 1) := by decide +kernel
theorem dX2_init_21 : decode cX2_init 21 = .ok (.sipush 144, 3) := by decide +kernel
theorem dX2_init_24 : decode cX2_init 24 = .ok (.newarray .int, 2) := by decide +kernel
theorem dX2_init_26 : decode cX2_init 26 = .ok (.putfield 18, 3) := by decide +kernel
theorem dX2_init_29 : decode cX2_init 29 = .ok (.aload_n 0, 1) := by decide +kernel
theorem dX2_init_30 : decode cX2_init 30 = .ok (.iconst 0, 1) := by decide +kernel
theorem dX2_init_31 : decode cX2_init 31 = .ok (.putfield 21, 3) := by decide +kernel
theorem dX2_init_34 : decode cX2_init 34 = .ok (.return_, 1) := by decide +kernel
theorem dX2_empty_0 : decode cX2_empty 0 = .ok (.aload_n 0, 1) := by decide +kernel
theorem dX2_empty_1 : decode cX2_empty 1 = .ok (.getfield 9, 3) := by decide +kernel
theorem dX2_empty_4 : decode cX2_empty 4 = .ok (.iconst (-1), 1) := by decide +kernel
theorem dX2_empty_5 : decode cX2_empty 5 = .ok (.invokestatic 25, 3) := by decide +kernel
theorem dX2_empty_8 : decode cX2_empty 8 = .ok (.aload_n 0, 1) := by decide +kernel
theorem dX2_empty_9 : decode cX2_empty 9 = .ok (.getfield 15, 3) := by decide +kernel
theorem dX2_empty_12 : decode cX2_empty 12 = .ok (.iconst (-1), 1) := by decide +kernel
theorem dX2_empty_13 : decode cX2_empty 13 = .ok (.invokestatic 25, 3) := by decide +kernel
theorem dX2_empty_16 : decode cX2_empty 16 = .ok (.aload_n 0, 1) := by decide +kernel
theorem dX2_empty_17 : decode cX2_empty 17 = .ok (.iconst 0, 1) := by decide +kernel
theorem dX2_empty_18 : decode cX2_empty 18 = .ok (.putfield 21, 3) := by decide +kernel
theorem dX2_empty_21 : decode cX2_empty 21 = .ok (.return_, 1) := by decide +kernel
theorem dX2_add_0 : decode cX2_add 0 = .ok (.aload_n 0, 1) := by decide +kernel
theorem dX2_add_1 : decode cX2_add 1 = .ok (.getfield 18, 3) := by decide +kernel
theorem dX2_add_4 : decode cX2_add 4 = .ok (.iload_n 1, 1) := by decide +kernel
theorem dX2_add_5 : decode cX2_add 5 = .ok (.iconst (-1), 1) := by decide +kernel
theorem dX2_add_6 : decode cX2_add 6 = .ok (.iastore, 1) := by decide +kernel
theorem dX2_add_7 : decode cX2_add 7 = .ok (.aload_n 0, 1) := by decide +kernel
theorem dX2_add_8 : decode cX2_add 8 = .ok (.getfield 9, 3) := by decide +kernel
theorem dX2_add_11 : decode cX2_add 11 = .ok (.iload_n 2, 1) := by decide +kernel
theorem dX2_add_12 : decode cX2_add 12 = .ok (.iaload, 1) := by decide +kernel
theorem dX2_add_13 : decode cX2_add 13 = .ok (.iconst (-1), 1) := by decide +kernel
theorem dX2_add_14 : decode cX2_add 14 = .ok (.if_icmp .ne 13, 3) := by decide +kernel
theorem dX2_add_17 : decode cX2_add 17 = .ok (.aload_n 0, 1) := by decide +kernel
theorem dX2_add_18 : decode cX2_add 18 = .ok (.getfield 9, 3) := by decide +kernel
theorem dX2_add_21 : decode cX2_add 21 = .ok (.iload_n 2, 1) := by decide +kernel
theorem dX2_add_22 : decode cX2_add 22 = .ok (.iload_n 1, 1) := by decide +kernel
theorem dX2_add_23 : decode cX2_add 23 = .ok (.iastore, 1) := by decide +kernel
theorem dX2_add_24 : decode cX2_add 24 = .ok (.goto 15, 3) := by decide +kernel
theorem dX2_add_27 : decode cX2_add 27 = .ok (.aload_n 0, 1) := by decide +kernel
theorem dX2_add_28 : decode cX2_add 28 = .ok (.getfield 18, 3) := by decide +kernel
theorem dX2_add_31 : decode cX2_add 31 = .ok (.aload_n 0, 1) := by decide +kernel
theorem dX2_add_32 : decode cX2_add 32 = .ok (.getfield 15, 3) := by decide +kernel
theorem dX2_add_35 : decode cX2_add 35 = .ok (.iload_n 2, 1) := by decide +kernel
theorem dX2_add_36 : decode cX2_add 36 = .ok (.iaload, 1) := by decide +kernel
theorem dX2_add_37 : decode cX2_add 37 = .ok (.iload_n 1, 1) := by decide +kernel
theorem dX2_add_38 : decode cX2_add 38 = .ok (.iastore, 1) := by decide +kernel
theorem dX2_add_39 : decode cX2_add 39 = .ok (.aload_n 0, 1) := by decide +kernel
theorem dX2_add_40 : decode cX2_add 40 = .ok (.getfield 15, 3) := by decide +kernel
theorem dX2_add_43 : decode cX2_add 43 = .ok (.iload_n 2, 1) := by decide +kernel
theorem dX2_add_44 : decode cX2_add 44 = .ok (.iload_n 1, 1) := by decide +kernel
theorem dX2_add_45 : decode cX2_add 45 = .ok (.iastore, 1) := by decide +kernel
theorem dX2_add_46 : decode cX2_add 46 = .ok (.return_, 1) := by decide +kernel
theorem dX2_take_0 : decode cX2_take 0 = .ok (.aload_n 0, 1) := by decide +kernel
theorem dX2_take_1 : decode cX2_take 1 = .ok (.getfield 21, 3) := by decide +kernel
theorem dX2_take_4 : decode cX2_take 4 = .ok (.bipush 99, 2) := by decide +kernel
theorem dX2_take_6 : decode cX2_take 6 = .ok (.if_icmp .ge 29, 3) := by decide +kernel
theorem dX2_take_9 : decode cX2_take 9 = .ok (.aload_n 0, 1) := by decide +kernel
theorem dX2_take_10 : decode cX2_take 10 = .ok (.getfield 9, 3) := by decide +kernel
theorem dX2_take_13 : decode cX2_take 13 = .ok (.aload_n 0, 1) := by decide +kernel
theorem dX2_take_14 : decode cX2_take 14 = .ok (.getfield 21, 3) := by decide +kernel
theorem dX2_take_17 : decode cX2_take 17 = .ok (.iaload, 1) := by decide +kernel
theorem dX2_take_18 : decode cX2_take 18 = .ok (.iconst (-1), 1) := by decide +kernel
theorem dX2_take_19 : decode cX2_take 19 = .ok (.if_icmp .ne 16, 3) := by decide +kernel
theorem dX2_take_22 : decode cX2_take 22 = .ok (.aload_n 0, 1) := by decide +kernel
theorem dX2_take_23 : decode cX2_take 23 = .ok (.dup, 1) := by decide +kernel
theorem dX2_take_24 : decode cX2_take 24 = .ok (.getfield 21, 3) := by decide +kernel
theorem dX2_take_27 : decode cX2_take 27 = .ok (.iconst 1, 1) := by decide +kernel
theorem dX2_take_28 : decode cX2_take 28 = .ok (.iadd, 1) := by decide +kernel
theorem dX2_take_29 : decode cX2_take 29 = .ok (.putfield 21, 3) := by decide +kernel
theorem dX2_take_32 : decode cX2_take 32 = .ok (.goto (-32), 3) := by decide +kernel
theorem dX2_take_35 : decode cX2_take 35 = .ok (.aload_n 0, 1) := by decide +kernel
theorem dX2_take_36 : decode cX2_take 36 = .ok (.getfield 9, 3) := by decide +kernel
theorem dX2_take_39 : decode cX2_take 39 = .ok (.aload_n 0, 1) := by decide +kernel
theorem dX2_take_40 : decode cX2_take 40 = .ok (.getfield 21, 3) := by decide +kernel
theorem dX2_take_43 : decode cX2_take 43 = .ok (.iaload, 1) := by decide +kernel
theorem dX2_take_44 : decode cX2_take 44 = .ok (.istore_n 1, 1) := by decide +kernel
theorem dX2_take_45 : decode cX2_take 45 = .ok (.iload_n 1, 1) := by decide +kernel
theorem dX2_take_46 : decode cX2_take 46 = .ok (.iconst (-1), 1) := by decide +kernel
theorem dX2_take_47 : decode cX2_take 47 = .ok (.if_icmp .eq 18, 3) := by decide +kernel
theorem dX2_take_50 : decode cX2_take 50 = .ok (.aload_n 0, 1) := by decide +kernel
theorem dX2_take_51 : decode cX2_take 51 = .ok (.getfield 9, 3) := by decide +kernel
theorem dX2_take_54 : decode cX2_take 54 = .ok (.aload_n 0, 1) := by decide +kernel
theorem dX2_take_55 : decode cX2_take 55 = .ok (.getfield 21, 3) := by decide +kernel
theorem dX2_take_58 : decode cX2_take 58 = .ok (.aload_n 0, 1) := by decide +kernel
theorem dX2_take_59 : decode cX2_take 59 = .ok (.getfield 18, 3) := by decide +kernel
theorem dX2_take_62 : decode cX2_take 62 = .ok (.iload_n 1, 1) := by decide +kernel
theorem dX2_take_63 : decode cX2_take 63 = .ok (.iaload, 1) := by decide +kernel
theorem dX2_take_64 : decode cX2_take 64 = .ok (.iastore, 1) := by decide +kernel
theorem dX2_take_65 : decode cX2_take 65 = .ok (.iload_n 1, 1) := by decide +kernel
theorem dX2_take_66 : decode cX2_take 66 = .ok (.ireturn, 1) := by decide +kernel
theorem dX3_init_0 : decode cX3_init 0 = .ok (.aload_n 0, 1) := by decide +kernel
theorem dX3_init_1 : decode cX3_init 1 = .ok (.invokespecial 3, 3) := by decide +kernel
theorem dX3_init_4 : decode cX3_init 4 = .ok (.aload_n 0, 1) := by decide +kernel
theorem dX3_init_5 : decode cX3_init 5 = .ok (.iconst 0, 1) := by decide +kernel
theorem dX3_init_6 : decode cX3_init 6 = .ok (.putfield 9, 3) := by decide +kernel
theorem dX3_init_9 : decode cX3_init 9 = .ok (.aload_n 0, 1) := by decide +kernel
theorem dX3_init_10 : decode cX3_init 10 = .ok (.sipush 144, 3) := by decide +kernel
theorem dX3_init_13 : decode cX3_init 13 = .ok (.newarray .int, 2) := by decide +kernel
theorem dX3_init_15 : decode cX3_init 15 = .ok (.putfield 15, 3) := by decide +kernel
theorem dX3_init_18 : decode cX3_init 18 = .ok (.aload_n 0, 1) := by decide +kernel
theorem dX3_init_19 : decode cX3_init 19 = .ok (.bipush 100, 2) := by decide +kernel
theorem dX3_init_21 : decode cX3_init 21 = .ok (.newarray .int, 2) := by decide +kernel
theorem dX3_init_23 : decode cX3_init 23 = .ok (.putfield 19, 3) := by decide +kernel
theorem dX3_init_26 : decode cX3_init 26 = .ok (.aload_n 0, 1) := by decide +kernel
theorem dX3_init_27 : decode cX3_init 27 = .ok (.bipush 100, 2) := by decide +kernel
theorem dX3_init_29 : decode cX3_init 29 = .ok (.newarray .int, 2) := by decide +kernel
theorem dX3_init_31 : decode cX3_init 31 = .ok (.putfield 22, 3) := by decide +kernel
theorem dX3_init_34 : decode cX3_init 34 = .ok (.aload_n 0, 1) := by decide +kernel
theorem dX3_init_35 : decode cX3_init 35 = .ok (.bipush 100, 2) := by decide +kernel
theorem dX3_init_37 : decode cX3_init 37 = .ok (.newarray .int, 2) := by decide +kernel
theorem dX3_init_39 : decode cX3_init 39 = .ok (.putfield 25, 3) := by decide +kernel
theorem dX3_init_42 : decode cX3_init 42 = .ok (.aload_n 0, 1) := by decide +kernel
theorem dX3_init_43 : decode cX3_init 43 = .ok (.bipush 100, 2) := by decide +kernel
theorem dX3_init_45 : decode cX3_init 45 = .ok (.newarray .int, 2) := by decide +kernel
theorem dX3_init_47 : decode cX3_init 47 = .ok (.putfield 28, 3) := by decide +kernel
theorem dX3_init_50 : decode cX3_init 50 = .ok (.aload_n 0, 1) := by decide +kernel
theorem dX3_init_51 : decode cX3_init 51 = .ok (.bipush 100, 2) := by decide +kernel
theorem dX3_init_53 : decode cX3_init 53 = .ok (.newarray .int, 2) := by decide +kernel
theorem dX3_init_55 : decode cX3_init 55 = .ok (.putfield 31, 3) := by decide +kernel
theorem dX3_init_58 : decode cX3_init 58 = .ok (.aload_n 0, 1) := by decide +kernel
theorem dX3_init_59 : decode cX3_init 59 = .ok (.bipush 99, 2) := by decide +kernel
theorem dX3_init_61 : decode cX3_init 61 = .ok (.newarray .int, 2) := by decide +kernel
theorem dX3_init_63 : decode cX3_init 63 = .ok (.putfield 34, 3) := by decide +kernel
theorem dX3_init_66 : decode cX3_init 66 = .ok (.aload_n 0, 1) := by decide +kernel
theorem dX3_init_67 : decode cX3_init 67 = .ok (.bipush 99, 2) := by decide +kernel
theorem dX3_init_69 : decode cX3_init 69 = .ok (.newarray .int, 2) := by decide +kernel
theorem dX3_init_71 : decode cX3_init 71 = .ok (.putfield 37, 3) := by decide +kernel
theorem dX3_init_74 : decode cX3_init 74 = .ok (.aload_n 0, 1) := by decide +kernel
theorem dX3_init_75 : decode cX3_init 75 = .ok (.bipush 99, 2) := by decide +kernel
theorem dX3_init_77 : decode cX3_init 77 = .ok (.newarray .int, 2) := by decide +kernel
theorem dX3_init_79 : decode cX3_init 79 = .ok (.putfield 40, 3) := by decide +kernel
theorem dX3_init_82 : decode cX3_init 82 = .ok (.aload_n 0, 1) := by decide +kernel
theorem dX3_init_83 : decode cX3_init 83 = .ok (.bipush 99, 2) := by decide +kernel
theorem dX3_init_85 : decode cX3_init 85 = .ok (.newarray .int, 2) := by decide +kernel
theorem dX3_init_87 : decode cX3_init 87 = .ok (.putfield 43, 3) := by decide +kernel
theorem dX3_init_90 : decode cX3_init 90 = .ok (.aload_n 0, 1) := by decide +kernel
theorem dX3_init_91 : decode cX3_init 91 = .ok (.sipush 144, 3) := by decide +kernel
theorem dX3_init_94 : decode cX3_init 94 = .ok (.newarray .int, 2) := by decide +kernel
theorem dX3_init_96 : decode cX3_init 96 = .ok (.putfield 46, 3) := by decide +kernel
theorem dX3_init_99 : decode cX3_init 99 = .ok (.return_, 1) := by decide +kernel
theorem dX3_run_0 : decode cX3_run 0 = .ok (.aload_n 2, 1) := by decide +kernel
theorem dX3_run_1 : decode cX3_run 1 = .ok (.iconst 0, 1) := by decide +kernel
theorem dX3_run_2 : decode cX3_run 2 = .ok (.aload_n 0, 1) := by decide +kernel
theorem dX3_run_3 : decode cX3_run 3 = .ok (.getfield 15, 3) := by decide +kernel
theorem dX3_run_6 : decode cX3_run 6 = .ok (.iconst 0, 1) := by decide +kernel
theorem dX3_run_7 : decode cX3_run 7 = .ok (.sipush 144, 3) := by decide +kernel
theorem dX3_run_10 : decode cX3_run 10 = .ok (.invokestatic 49, 3) := by decide +kernel
theorem dX3_run_13 : decode cX3_run 13 = .ok (.aload_n 0, 1) := by decide +kernel
theorem dX3_run_14 : decode cX3_run 14 = .ok (.iconst 0, 1) := by decide +kernel
theorem dX3_run_15 : decode cX3_run 15 = .ok (.putfield 9, 3) := by decide +kernel
theorem dX3_run_18 : decode cX3_run 18 = .ok (.iconst 0, 1) := by decide +kernel
theorem dX3_run_19 : decode cX3_run 19 = .ok (.istore 5, 2) := by decide +kernel
theorem dX3_run_21 : decode cX3_run 21 = .ok (.iload 5, 2) := by decide +kernel
theorem dX3_run_23 : decode cX3_run 23 = .ok (.bipush 99, 2) := by decide +kernel
theorem dX3_run_25 : decode cX3_run 25 = .ok (.if_icmp .ge 62, 3) := by decide +kernel
theorem dX3_run_28 : decode cX3_run 28 = .ok (.aload_n 0, 1) := by decide +kernel
theorem dX3_run_29 : decode cX3_run 29 = .ok (.aload_n 1, 1) := by decide +kernel
theorem dX3_run_30 : decode cX3_run 30 = .ok (.invokevirtual 55, 3) := by decide +kernel
theorem dX3_run_33 : decode cX3_run 33 = .ok (.aload_n 0, 1) := by decide +kernel
theorem dX3_run_34 : decode cX3_run 34 = .ok (.iload_n 3, 1) := by decide +kernel
theorem dX3_run_35 : decode cX3_run 35 = .ok (.iload 4, 2) := by decide +kernel
theorem dX3_run_37 : decode cX3_run 37 = .ok (.invokevirtual 59, 3) := by decide +kernel
theorem dX3_run_40 : decode cX3_run 40 = .ok (.istore 6, 2) := by decide +kernel
theorem dX3_run_42 : decode cX3_run 42 = .ok (.iload 6, 2) := by decide +kernel
theorem dX3_run_44 : decode cX3_run 44 = .ok (.bipush (-6), 2) := by decide +kernel
theorem dX3_run_46 : decode cX3_run 46 = .ok (.if_icmp .ne 4, 3) := by decide +kernel
theorem dX3_run_49 : decode cX3_run 49 = .ok (.return_, 1) := by decide +kernel
theorem dX3_run_50 : decode cX3_run 50 = .ok (.aload_n 0, 1) := by decide +kernel
theorem dX3_run_51 : decode cX3_run 51 = .ok (.aload_n 1, 1) := by decide +kernel
theorem dX3_run_52 : decode cX3_run 52 = .ok (.iload 6, 2) := by decide +kernel
theorem dX3_run_54 : decode cX3_run 54 = .ok (.invokevirtual 63, 3) := by decide +kernel
theorem dX3_run_57 : decode cX3_run 57 = .ok (.aload_n 0, 1) := by decide +kernel
theorem dX3_run_58 : decode cX3_run 58 = .ok (.getfield 43, 3) := by decide +kernel
theorem dX3_run_61 : decode cX3_run 61 = .ok (.aload_n 0, 1) := by decide +kernel
theorem dX3_run_62 : decode cX3_run 62 = .ok (.getfield 9, 3) := by decide +kernel
theorem dX3_run_65 : decode cX3_run 65 = .ok (.aload_n 0, 1) := by decide +kernel
theorem dX3_run_66 : decode cX3_run 66 = .ok (.aload_n 1, 1) := by decide +kernel
theorem dX3_run_67 : decode cX3_run 67 = .ok (.invokevirtual 67, 3) := by decide +kernel
theorem dX3_run_70 : decode cX3_run 70 = .ok (.iastore, 1) := by decide +kernel
theorem dX3_run_71 : decode cX3_run 71 = .ok (.aload_n 0, 1) := by decide +kernel
theorem dX3_run_72 : decode cX3_run 72 = .ok (.dup, 1) := by decide +kernel
theorem dX3_run_73 : decode cX3_run 73 = .ok (.getfield 9, 3) := by decide +kernel
theorem dX3_run_76 : decode cX3_run 76 = .ok (.iconst 1, 1) := by decide +kernel
theorem dX3_run_77 : decode cX3_run 77 = .ok (.iadd, 1) := by decide +kernel
theorem dX3_run_78 : decode cX3_run 78 = .ok (.putfield 9, 3) := by decide +kernel
theorem dX3_run_81 : decode cX3_run 81 = .ok (.iinc 5 1, 3) := by decide +kernel
theorem dX3_run_84 : decode cX3_run 84 = .ok (.goto (-63), 3) := by decide +kernel
theorem dX3_run_87 : decode cX3_run 87 = .ok (.return_, 1) := by decide +kernel
theorem dX3_hasBasin_0 : decode cX3_hasBasin 0 = .ok (.iload_n 1, 1) := by decide +kernel
theorem dX3_hasBasin_1 : decode cX3_hasBasin 1 = .ok (.iconst 1, 1) := by decide +kernel
theorem dX3_hasBasin_2 : decode cX3_hasBasin 2 = .ok (.bipush 99, 2) := by decide +kernel
theorem dX3_hasBasin_4 : decode cX3_hasBasin 4 = .ok (.invokestatic 71, 3) := by decide +kernel
theorem dX3_hasBasin_7 : decode cX3_hasBasin 7 = .ok (.ifCond .eq 16, 3) := by decide +kernel
theorem dX3_hasBasin_10 : decode cX3_hasBasin 10 = .ok (.aload_n 0, 1) := by decide +kernel
theorem dX3_hasBasin_11 : decode cX3_hasBasin 11 = .ok (.getfield 28, 3) := by decide +kernel
theorem dX3_hasBasin_14 : decode cX3_hasBasin 14 = .ok (.iload_n 1, 1) := by decide +kernel
theorem dX3_hasBasin_15 : decode cX3_hasBasin 15 = .ok (.iaload, 1) := by decide +kernel
theorem dX3_hasBasin_16 : decode cX3_hasBasin 16 = .ok (.ifCond .le 7, 3) := by decide +kernel
theorem dX3_hasBasin_19 : decode cX3_hasBasin 19 = .ok (.iconst 1, 1) := by decide +kernel
theorem dX3_hasBasin_20 : decode cX3_hasBasin 20 = .ok (.goto 4, 3) := by decide +kernel
theorem dX3_hasBasin_23 : decode cX3_hasBasin 23 = .ok (.iconst 0, 1) := by decide +kernel
theorem dX3_hasBasin_24 : decode cX3_hasBasin 24 = .ok (.ireturn, 1) := by decide +kernel
theorem dX3_countBasins_0 : decode cX3_countBasins 0 = .ok (.iconst 0, 1) := by decide +kernel
theorem dX3_countBasins_1 : decode cX3_countBasins 1 = .ok (.istore_n 1, 1) := by decide +kernel
theorem dX3_countBasins_2 : decode cX3_countBasins 2 = .ok (.iconst 1, 1) := by decide +kernel
theorem dX3_countBasins_3 : decode cX3_countBasins 3 = .ok (.istore_n 2, 1) := by decide +kernel
theorem dX3_countBasins_4 : decode cX3_countBasins 4 = .ok (.iload_n 2, 1) := by decide +kernel
theorem dX3_countBasins_5 : decode cX3_countBasins 5 = .ok (.bipush 99, 2) := by decide +kernel
theorem dX3_countBasins_7 : decode cX3_countBasins 7 = .ok (.if_icmp .gt 21, 3) := by decide +kernel
theorem dX3_countBasins_10 : decode cX3_countBasins 10 = .ok (.aload_n 0, 1) := by decide +kernel
theorem dX3_countBasins_11 : decode cX3_countBasins 11 = .ok (.getfield 28, 3) := by decide +kernel
theorem dX3_countBasins_14 : decode cX3_countBasins 14 = .ok (.iload_n 2, 1) := by decide +kernel
theorem dX3_countBasins_15 : decode cX3_countBasins 15 = .ok (.iaload, 1) := by decide +kernel
theorem dX3_countBasins_16 : decode cX3_countBasins 16 = .ok (.ifCond .le 6, 3) := by decide +kernel
theorem dX3_countBasins_19 : decode cX3_countBasins 19 = .ok (.iinc 1 1, 3) := by decide +kernel
theorem dX3_countBasins_22 : decode cX3_countBasins 22 = .ok (.iinc 2 1, 3) := by decide +kernel
theorem dX3_countBasins_25 : decode cX3_countBasins 25 = .ok (.goto (-21), 3) := by decide +kernel
theorem dX3_countBasins_28 : decode cX3_countBasins 28 = .ok (.iload_n 1, 1) := by decide +kernel
theorem dX3_countBasins_29 : decode cX3_countBasins 29 = .ok (.ireturn, 1) := by decide +kernel
theorem dX3_sizeOf_0 : decode cX3_sizeOf 0 = .ok (.iload_n 2, 1) := by decide +kernel
theorem dX3_sizeOf_1 : decode cX3_sizeOf 1 = .ok (.ifCond .ne 10, 3) := by decide +kernel
theorem dX3_sizeOf_4 : decode cX3_sizeOf 4 = .ok (.aload_n 0, 1) := by decide +kernel
theorem dX3_sizeOf_5 : decode cX3_sizeOf 5 = .ok (.getfield 28, 3) := by decide +kernel
theorem dX3_sizeOf_8 : decode cX3_sizeOf 8 = .ok (.iload_n 1, 1) := by decide +kernel
theorem dX3_sizeOf_9 : decode cX3_sizeOf 9 = .ok (.iaload, 1) := by decide +kernel
theorem dX3_sizeOf_10 : decode cX3_sizeOf 10 = .ok (.ireturn, 1) := by decide +kernel
theorem dX3_sizeOf_11 : decode cX3_sizeOf 11 = .ok (.aload_n 0, 1) := by decide +kernel
theorem dX3_sizeOf_12 : decode cX3_sizeOf 12 = .ok (.getfield 22, 3) := by decide +kernel
theorem dX3_sizeOf_15 : decode cX3_sizeOf 15 = .ok (.iload_n 1, 1) := by decide +kernel
theorem dX3_sizeOf_16 : decode cX3_sizeOf 16 = .ok (.iaload, 1) := by decide +kernel
theorem dX3_sizeOf_17 : decode cX3_sizeOf 17 = .ok (.bipush 100, 2) := by decide +kernel
theorem dX3_sizeOf_19 : decode cX3_sizeOf 19 = .ok (.if_icmp .ne 5, 3) := by decide +kernel
theorem dX3_sizeOf_22 : decode cX3_sizeOf 22 = .ok (.iconst 0, 1) := by decide +kernel
theorem dX3_sizeOf_23 : decode cX3_sizeOf 23 = .ok (.ireturn, 1) := by decide +kernel
theorem dX3_sizeOf_24 : decode cX3_sizeOf 24 = .ok (.iload_n 2, 1) := by decide +kernel
theorem dX3_sizeOf_25 : decode cX3_sizeOf 25 = .ok (.iconst 1, 1) := by decide +kernel
theorem dX3_sizeOf_26 : decode cX3_sizeOf 26 = .ok (.if_icmp .ne 23, 3) := by decide +kernel
theorem dX3_sizeOf_29 : decode cX3_sizeOf 29 = .ok (.aload_n 0, 1) := by decide +kernel
theorem dX3_sizeOf_30 : decode cX3_sizeOf 30 = .ok (.getfield 22, 3) := by decide +kernel
theorem dX3_sizeOf_33 : decode cX3_sizeOf 33 = .ok (.iload_n 1, 1) := by decide +kernel
theorem dX3_sizeOf_34 : decode cX3_sizeOf 34 = .ok (.iaload, 1) := by decide +kernel
theorem dX3_sizeOf_35 : decode cX3_sizeOf 35 = .ok (.aload_n 0, 1) := by decide +kernel
theorem dX3_sizeOf_36 : decode cX3_sizeOf 36 = .ok (.getfield 19, 3) := by decide +kernel
theorem dX3_sizeOf_39 : decode cX3_sizeOf 39 = .ok (.iload_n 1, 1) := by decide +kernel
theorem dX3_sizeOf_40 : decode cX3_sizeOf 40 = .ok (.iaload, 1) := by decide +kernel
theorem dX3_sizeOf_41 : decode cX3_sizeOf 41 = .ok (.isub, 1) := by decide +kernel
theorem dX3_sizeOf_42 : decode cX3_sizeOf 42 = .ok (.iconst 0, 1) := by decide +kernel
theorem dX3_sizeOf_43 : decode cX3_sizeOf 43 = .ok (.invokestatic 75, 3) := by decide +kernel
theorem dX3_sizeOf_46 : decode cX3_sizeOf 46 = .ok (.goto 9, 3) := by decide +kernel
theorem dX3_sizeOf_49 : decode cX3_sizeOf 49 = .ok (.aload_n 0, 1) := by decide +kernel
theorem dX3_sizeOf_50 : decode cX3_sizeOf 50 = .ok (.getfield 31, 3) := by decide +kernel
theorem dX3_sizeOf_53 : decode cX3_sizeOf 53 = .ok (.iload_n 1, 1) := by decide +kernel
theorem dX3_sizeOf_54 : decode cX3_sizeOf 54 = .ok (.iaload, 1) := by decide +kernel
theorem dX3_sizeOf_55 : decode cX3_sizeOf 55 = .ok (.ireturn, 1) := by decide +kernel
theorem dX3_told_0 : decode cX3_told 0 = .ok (.iload_n 2, 1) := by decide +kernel
theorem dX3_told_1 : decode cX3_told 1 = .ok (.iconst 0, 1) := by decide +kernel
theorem dX3_told_2 : decode cX3_told 2 = .ok (.iconst 3, 1) := by decide +kernel
theorem dX3_told_3 : decode cX3_told 3 = .ok (.invokestatic 71, 3) := by decide +kernel
theorem dX3_told_6 : decode cX3_told 6 = .ok (.ifCond .ne 6, 3) := by decide +kernel
theorem dX3_told_9 : decode cX3_told 9 = .ok (.bipush (-2), 2) := by decide +kernel
theorem dX3_told_11 : decode cX3_told 11 = .ok (.ireturn, 1) := by decide +kernel
theorem dX3_told_12 : decode cX3_told 12 = .ok (.iload_n 1, 1) := by decide +kernel
theorem dX3_told_13 : decode cX3_told 13 = .ok (.iconst 0, 1) := by decide +kernel
theorem dX3_told_14 : decode cX3_told 14 = .ok (.aload_n 0, 1) := by decide +kernel
theorem dX3_told_15 : decode cX3_told 15 = .ok (.getfield 9, 3) := by decide +kernel
theorem dX3_told_18 : decode cX3_told 18 = .ok (.iconst 1, 1) := by decide +kernel
theorem dX3_told_19 : decode cX3_told 19 = .ok (.isub, 1) := by decide +kernel
theorem dX3_told_20 : decode cX3_told 20 = .ok (.invokestatic 71, 3) := by decide +kernel
theorem dX3_told_23 : decode cX3_told 23 = .ok (.ifCond .ne 6, 3) := by decide +kernel
theorem dX3_told_26 : decode cX3_told 26 = .ok (.bipush (-6), 2) := by decide +kernel
theorem dX3_told_28 : decode cX3_told 28 = .ok (.ireturn, 1) := by decide +kernel
theorem dX3_told_29 : decode cX3_told 29 = .ok (.iload_n 2, 1) := by decide +kernel
theorem dX3_told_30 : decode cX3_told 30 = .ok (.tableswitch 47 0 2 #[26, 33, 40], 26) := by decide +kernel
theorem dX3_told_56 : decode cX3_told 56 = .ok (.aload_n 0, 1) := by decide +kernel
theorem dX3_told_57 : decode cX3_told 57 = .ok (.getfield 34, 3) := by decide +kernel
theorem dX3_told_60 : decode cX3_told 60 = .ok (.iload_n 1, 1) := by decide +kernel
theorem dX3_told_61 : decode cX3_told 61 = .ok (.iaload, 1) := by decide +kernel
theorem dX3_told_62 : decode cX3_told 62 = .ok (.ireturn, 1) := by decide +kernel
theorem dX3_told_63 : decode cX3_told 63 = .ok (.aload_n 0, 1) := by decide +kernel
theorem dX3_told_64 : decode cX3_told 64 = .ok (.getfield 37, 3) := by decide +kernel
theorem dX3_told_67 : decode cX3_told 67 = .ok (.iload_n 1, 1) := by decide +kernel
theorem dX3_told_68 : decode cX3_told 68 = .ok (.iaload, 1) := by decide +kernel
theorem dX3_told_69 : decode cX3_told 69 = .ok (.ireturn, 1) := by decide +kernel
theorem dX3_told_70 : decode cX3_told 70 = .ok (.aload_n 0, 1) := by decide +kernel
theorem dX3_told_71 : decode cX3_told 71 = .ok (.getfield 40, 3) := by decide +kernel
theorem dX3_told_74 : decode cX3_told 74 = .ok (.iload_n 1, 1) := by decide +kernel
theorem dX3_told_75 : decode cX3_told 75 = .ok (.iaload, 1) := by decide +kernel
theorem dX3_told_76 : decode cX3_told 76 = .ok (.ireturn, 1) := by decide +kernel
theorem dX3_told_77 : decode cX3_told 77 = .ok (.aload_n 0, 1) := by decide +kernel
theorem dX3_told_78 : decode cX3_told 78 = .ok (.getfield 43, 3) := by decide +kernel
theorem dX3_told_81 : decode cX3_told 81 = .ok (.iload_n 1, 1) := by decide +kernel
theorem dX3_told_82 : decode cX3_told 82 = .ok (.iaload, 1) := by decide +kernel
theorem dX3_told_83 : decode cX3_told 83 = .ok (.ireturn, 1) := by decide +kernel
theorem dX3_passBetween_0 : decode cX3_passBetween 0 = .ok (.bipush 100, 2) := by decide +kernel
theorem dX3_passBetween_2 : decode cX3_passBetween 2 = .ok (.istore 4, 2) := by decide +kernel
theorem dX3_passBetween_4 : decode cX3_passBetween 4 = .ok (.iconst 0, 1) := by decide +kernel
theorem dX3_passBetween_5 : decode cX3_passBetween 5 = .ok (.istore 5, 2) := by decide +kernel
theorem dX3_passBetween_7 : decode cX3_passBetween 7 = .ok (.iload 5, 2) := by decide +kernel
theorem dX3_passBetween_9 : decode cX3_passBetween 9 = .ok (.aload_n 1, 1) := by decide +kernel
theorem dX3_passBetween_10 : decode cX3_passBetween 10 = .ok (.getfield 80, 3) := by decide +kernel
theorem dX3_passBetween_13 : decode cX3_passBetween 13 = .ok (.if_icmp .ge 134, 3) := by decide +kernel
theorem dX3_passBetween_16 : decode cX3_passBetween 16 = .ok (.aload_n 1, 1) := by decide +kernel
theorem dX3_passBetween_17 : decode cX3_passBetween 17 = .ok (.getfield 85, 3) := by decide +kernel
theorem dX3_passBetween_20 : decode cX3_passBetween 20 = .ok (.iload 5, 2) := by decide +kernel
theorem dX3_passBetween_22 : decode cX3_passBetween 22 = .ok (.iaload, 1) := by decide +kernel
theorem dX3_passBetween_23 : decode cX3_passBetween 23 = .ok (.istore 6, 2) := by decide +kernel
theorem dX3_passBetween_25 : decode cX3_passBetween 25 = .ok (.aload_n 0, 1) := by decide +kernel
theorem dX3_passBetween_26 : decode cX3_passBetween 26 = .ok (.getfield 15, 3) := by decide +kernel
theorem dX3_passBetween_29 : decode cX3_passBetween 29 = .ok (.iload 5, 2) := by decide +kernel
theorem dX3_passBetween_31 : decode cX3_passBetween 31 = .ok (.iaload, 1) := by decide +kernel
theorem dX3_passBetween_32 : decode cX3_passBetween 32 = .ok (.ifCond .ne 37, 3) := by decide +kernel
theorem dX3_passBetween_35 : decode cX3_passBetween 35 = .ok (.aload_n 0, 1) := by decide +kernel
theorem dX3_passBetween_36 : decode cX3_passBetween 36 = .ok (.aload_n 1, 1) := by decide +kernel
theorem dX3_passBetween_37 : decode cX3_passBetween 37 = .ok (.iload 5, 2) := by decide +kernel
theorem dX3_passBetween_39 : decode cX3_passBetween 39 = .ok (.iload_n 2, 1) := by decide +kernel
theorem dX3_passBetween_40 : decode cX3_passBetween 40 = .ok (.invokevirtual 88, 3) := by decide +kernel
theorem dX3_passBetween_43 : decode cX3_passBetween 43 = .ok (.ifCond .eq 98, 3) := by decide +kernel
theorem dX3_passBetween_46 : decode cX3_passBetween 46 = .ok (.aload_n 0, 1) := by decide +kernel
theorem dX3_passBetween_47 : decode cX3_passBetween 47 = .ok (.aload_n 1, 1) := by decide +kernel
theorem dX3_passBetween_48 : decode cX3_passBetween 48 = .ok (.iload 5, 2) := by decide +kernel
theorem dX3_passBetween_50 : decode cX3_passBetween 50 = .ok (.iload_n 3, 1) := by decide +kernel
theorem dX3_passBetween_51 : decode cX3_passBetween 51 = .ok (.invokevirtual 88, 3) := by decide +kernel
theorem dX3_passBetween_54 : decode cX3_passBetween 54 = .ok (.ifCond .eq 87, 3) := by decide +kernel
theorem dX3_passBetween_57 : decode cX3_passBetween 57 = .ok (.iload 4, 2) := by decide +kernel
theorem dX3_passBetween_59 : decode cX3_passBetween 59 = .ok (.iload 6, 2) := by decide +kernel
theorem dX3_passBetween_61 : decode cX3_passBetween 61 = .ok (.invokestatic 92, 3) := by decide +kernel
theorem dX3_passBetween_64 : decode cX3_passBetween 64 = .ok (.istore 4, 2) := by decide +kernel
theorem dX3_passBetween_66 : decode cX3_passBetween 66 = .ok (.goto 75, 3) := by decide +kernel
theorem dX3_passBetween_69 : decode cX3_passBetween 69 = .ok (.aload_n 0, 1) := by decide +kernel
theorem dX3_passBetween_70 : decode cX3_passBetween 70 = .ok (.getfield 15, 3) := by decide +kernel
theorem dX3_passBetween_73 : decode cX3_passBetween 73 = .ok (.iload 5, 2) := by decide +kernel
theorem dX3_passBetween_75 : decode cX3_passBetween 75 = .ok (.iaload, 1) := by decide +kernel
theorem dX3_passBetween_76 : decode cX3_passBetween 76 = .ok (.iload_n 2, 1) := by decide +kernel
theorem dX3_passBetween_77 : decode cX3_passBetween 77 = .ok (.if_icmp .ne 64, 3) := by decide +kernel
theorem dX3_passBetween_80 : decode cX3_passBetween 80 = .ok (.iconst 0, 1) := by decide +kernel
theorem dX3_passBetween_81 : decode cX3_passBetween 81 = .ok (.istore 7, 2) := by decide +kernel
theorem dX3_passBetween_83 : decode cX3_passBetween 83 = .ok (.iload 7, 2) := by decide +kernel
theorem dX3_passBetween_85 : decode cX3_passBetween 85 = .ok (.iconst 4, 1) := by decide +kernel
theorem dX3_passBetween_86 : decode cX3_passBetween 86 = .ok (.if_icmp .ge 55, 3) := by decide +kernel
theorem dX3_passBetween_89 : decode cX3_passBetween 89 = .ok (.aload_n 1, 1) := by decide +kernel
theorem dX3_passBetween_90 : decode cX3_passBetween 90 = .ok (.iload 5, 2) := by decide +kernel
theorem dX3_passBetween_92 : decode cX3_passBetween 92 = .ok (.iload 7, 2) := by decide +kernel
theorem dX3_passBetween_94 : decode cX3_passBetween 94 = .ok (.invokevirtual 95, 3) := by decide +kernel
theorem dX3_passBetween_97 : decode cX3_passBetween 97 = .ok (.istore 8, 2) := by decide +kernel
theorem dX3_passBetween_99 : decode cX3_passBetween 99 = .ok (.iload 8, 2) := by decide +kernel
theorem dX3_passBetween_101 : decode cX3_passBetween 101 = .ok (.iconst (-1), 1) := by decide +kernel
theorem dX3_passBetween_102 : decode cX3_passBetween 102 = .ok (.if_icmp .eq 33, 3) := by decide +kernel
theorem dX3_passBetween_105 : decode cX3_passBetween 105 = .ok (.aload_n 0, 1) := by decide +kernel
theorem dX3_passBetween_106 : decode cX3_passBetween 106 = .ok (.getfield 15, 3) := by decide +kernel
theorem dX3_passBetween_109 : decode cX3_passBetween 109 = .ok (.iload 8, 2) := by decide +kernel
theorem dX3_passBetween_111 : decode cX3_passBetween 111 = .ok (.iaload, 1) := by decide +kernel
theorem dX3_passBetween_112 : decode cX3_passBetween 112 = .ok (.iload_n 3, 1) := by decide +kernel
theorem dX3_passBetween_113 : decode cX3_passBetween 113 = .ok (.if_icmp .ne 22, 3) := by decide +kernel
theorem dX3_passBetween_116 : decode cX3_passBetween 116 = .ok (.iload 4, 2) := by decide +kernel
theorem dX3_passBetween_118 : decode cX3_passBetween 118 = .ok (.iload 6, 2) := by decide +kernel
theorem dX3_passBetween_120 : decode cX3_passBetween 120 = .ok (.aload_n 1, 1) := by decide +kernel
theorem dX3_passBetween_121 : decode cX3_passBetween 121 = .ok (.getfield 85, 3) := by decide +kernel
theorem dX3_passBetween_124 : decode cX3_passBetween 124 = .ok (.iload 8, 2) := by decide +kernel
theorem dX3_passBetween_126 : decode cX3_passBetween 126 = .ok (.iaload, 1) := by decide +kernel
theorem dX3_passBetween_127 : decode cX3_passBetween 127 = .ok (.invokestatic 75, 3) := by decide +kernel
theorem dX3_passBetween_130 : decode cX3_passBetween 130 = .ok (.invokestatic 92, 3) := by decide +kernel
theorem dX3_passBetween_133 : decode cX3_passBetween 133 = .ok (.istore 4, 2) := by decide +kernel
theorem dX3_passBetween_135 : decode cX3_passBetween 135 = .ok (.iinc 7 1, 3) := by decide +kernel
theorem dX3_passBetween_138 : decode cX3_passBetween 138 = .ok (.goto (-55), 3) := by decide +kernel
theorem dX3_passBetween_141 : decode cX3_passBetween 141 = .ok (.iinc 5 1, 3) := by decide +kernel
theorem dX3_passBetween_144 : decode cX3_passBetween 144 = .ok (.goto (-137), 3) := by decide +kernel
theorem dX3_passBetween_147 : decode cX3_passBetween 147 = .ok (.iload 4, 2) := by decide +kernel
theorem dX3_passBetween_149 : decode cX3_passBetween 149 = .ok (.ireturn, 1) := by decide +kernel
theorem dX3_touches_0 : decode cX3_touches 0 = .ok (.iconst 0, 1) := by decide +kernel
theorem dX3_touches_1 : decode cX3_touches 1 = .ok (.istore 4, 2) := by decide +kernel
theorem dX3_touches_3 : decode cX3_touches 3 = .ok (.iload 4, 2) := by decide +kernel
theorem dX3_touches_5 : decode cX3_touches 5 = .ok (.iconst 4, 1) := by decide +kernel
theorem dX3_touches_6 : decode cX3_touches 6 = .ok (.if_icmp .ge 26, 3) := by decide +kernel
theorem dX3_touches_9 : decode cX3_touches 9 = .ok (.aload_n 1, 1) := by decide +kernel
theorem dX3_touches_10 : decode cX3_touches 10 = .ok (.iload_n 2, 1) := by decide +kernel
theorem dX3_touches_11 : decode cX3_touches 11 = .ok (.iload 4, 2) := by decide +kernel
theorem dX3_touches_13 : decode cX3_touches 13 = .ok (.aload_n 0, 1) := by decide +kernel
theorem dX3_touches_14 : decode cX3_touches 14 = .ok (.getfield 15, 3) := by decide +kernel
theorem dX3_touches_17 : decode cX3_touches 17 = .ok (.invokevirtual 98, 3) := by decide +kernel
theorem dX3_touches_20 : decode cX3_touches 20 = .ok (.iload_n 3, 1) := by decide +kernel
theorem dX3_touches_21 : decode cX3_touches 21 = .ok (.if_icmp .ne 5, 3) := by decide +kernel
theorem dX3_touches_24 : decode cX3_touches 24 = .ok (.iconst 1, 1) := by decide +kernel
theorem dX3_touches_25 : decode cX3_touches 25 = .ok (.ireturn, 1) := by decide +kernel
theorem dX3_touches_26 : decode cX3_touches 26 = .ok (.iinc 4 1, 3) := by decide +kernel
theorem dX3_touches_29 : decode cX3_touches 29 = .ok (.goto (-26), 3) := by decide +kernel
theorem dX3_touches_32 : decode cX3_touches 32 = .ok (.iconst 0, 1) := by decide +kernel
theorem dX3_touches_33 : decode cX3_touches 33 = .ok (.ireturn, 1) := by decide +kernel
theorem dX3_measure_0 : decode cX3_measure 0 = .ok (.aload_n 0, 1) := by decide +kernel
theorem dX3_measure_1 : decode cX3_measure 1 = .ok (.getfield 28, 3) := by decide +kernel
theorem dX3_measure_4 : decode cX3_measure 4 = .ok (.iconst 0, 1) := by decide +kernel
theorem dX3_measure_5 : decode cX3_measure 5 = .ok (.invokestatic 102, 3) := by decide +kernel
theorem dX3_measure_8 : decode cX3_measure 8 = .ok (.aload_n 0, 1) := by decide +kernel
theorem dX3_measure_9 : decode cX3_measure 9 = .ok (.getfield 31, 3) := by decide +kernel
theorem dX3_measure_12 : decode cX3_measure 12 = .ok (.iconst 0, 1) := by decide +kernel
theorem dX3_measure_13 : decode cX3_measure 13 = .ok (.invokestatic 102, 3) := by decide +kernel
theorem dX3_measure_16 : decode cX3_measure 16 = .ok (.aload_n 0, 1) := by decide +kernel
theorem dX3_measure_17 : decode cX3_measure 17 = .ok (.getfield 19, 3) := by decide +kernel
theorem dX3_measure_20 : decode cX3_measure 20 = .ok (.bipush 100, 2) := by decide +kernel
theorem dX3_measure_22 : decode cX3_measure 22 = .ok (.invokestatic 102, 3) := by decide +kernel
theorem dX3_measure_25 : decode cX3_measure 25 = .ok (.aload_n 0, 1) := by decide +kernel
theorem dX3_measure_26 : decode cX3_measure 26 = .ok (.getfield 22, 3) := by decide +kernel
theorem dX3_measure_29 : decode cX3_measure 29 = .ok (.bipush 100, 2) := by decide +kernel
theorem dX3_measure_31 : decode cX3_measure 31 = .ok (.invokestatic 102, 3) := by decide +kernel
theorem dX3_measure_34 : decode cX3_measure 34 = .ok (.aload_n 0, 1) := by decide +kernel
theorem dX3_measure_35 : decode cX3_measure 35 = .ok (.getfield 25, 3) := by decide +kernel
theorem dX3_measure_38 : decode cX3_measure 38 = .ok (.bipush (-6), 2) := by decide +kernel
theorem dX3_measure_40 : decode cX3_measure 40 = .ok (.invokestatic 102, 3) := by decide +kernel
theorem dX3_measure_43 : decode cX3_measure 43 = .ok (.iconst 0, 1) := by decide +kernel
theorem dX3_measure_44 : decode cX3_measure 44 = .ok (.istore_n 2, 1) := by decide +kernel
theorem dX3_measure_45 : decode cX3_measure 45 = .ok (.iload_n 2, 1) := by decide +kernel
theorem dX3_measure_46 : decode cX3_measure 46 = .ok (.aload_n 1, 1) := by decide +kernel
theorem dX3_measure_47 : decode cX3_measure 47 = .ok (.getfield 80, 3) := by decide +kernel
theorem dX3_measure_50 : decode cX3_measure 50 = .ok (.if_icmp .ge 70, 3) := by decide +kernel
theorem dX3_measure_53 : decode cX3_measure 53 = .ok (.aload_n 0, 1) := by decide +kernel
theorem dX3_measure_54 : decode cX3_measure 54 = .ok (.getfield 15, 3) := by decide +kernel
theorem dX3_measure_57 : decode cX3_measure 57 = .ok (.iload_n 2, 1) := by decide +kernel
theorem dX3_measure_58 : decode cX3_measure 58 = .ok (.iaload, 1) := by decide +kernel
theorem dX3_measure_59 : decode cX3_measure 59 = .ok (.istore_n 3, 1) := by decide +kernel
theorem dX3_measure_60 : decode cX3_measure 60 = .ok (.iload_n 3, 1) := by decide +kernel
theorem dX3_measure_61 : decode cX3_measure 61 = .ok (.ifCond .ne 12, 3) := by decide +kernel
theorem dX3_measure_64 : decode cX3_measure 64 = .ok (.aload_n 0, 1) := by decide +kernel
theorem dX3_measure_65 : decode cX3_measure 65 = .ok (.aload_n 1, 1) := by decide +kernel
theorem dX3_measure_66 : decode cX3_measure 66 = .ok (.iload_n 2, 1) := by decide +kernel
theorem dX3_measure_67 : decode cX3_measure 67 = .ok (.invokevirtual 108, 3) := by decide +kernel
theorem dX3_measure_70 : decode cX3_measure 70 = .ok (.goto 44, 3) := by decide +kernel
theorem dX3_measure_73 : decode cX3_measure 73 = .ok (.iload_n 3, 1) := by decide +kernel
theorem dX3_measure_74 : decode cX3_measure 74 = .ok (.ifCond .le 40, 3) := by decide +kernel
theorem dX3_measure_77 : decode cX3_measure 77 = .ok (.aload_n 0, 1) := by decide +kernel
theorem dX3_measure_78 : decode cX3_measure 78 = .ok (.getfield 28, 3) := by decide +kernel
theorem dX3_measure_81 : decode cX3_measure 81 = .ok (.iload_n 3, 1) := by decide +kernel
theorem dX3_measure_82 : decode cX3_measure 82 = .ok (.dup2, 1) := by decide +kernel
theorem dX3_measure_83 : decode cX3_measure 83 = .ok (.iaload, 1) := by decide +kernel
theorem dX3_measure_84 : decode cX3_measure 84 = .ok (.iconst 1, 1) := by decide +kernel
theorem dX3_measure_85 : decode cX3_measure 85 = .ok (.iadd, 1) := by decide +kernel
theorem dX3_measure_86 : decode cX3_measure 86 = .ok (.iastore, 1) := by decide +kernel
theorem dX3_measure_87 : decode cX3_measure 87 = .ok (.aload_n 0, 1) := by decide +kernel
theorem dX3_measure_88 : decode cX3_measure 88 = .ok (.getfield 19, 3) := by decide +kernel
theorem dX3_measure_91 : decode cX3_measure 91 = .ok (.iload_n 3, 1) := by decide +kernel
theorem dX3_measure_92 : decode cX3_measure 92 = .ok (.aload_n 0, 1) := by decide +kernel
theorem dX3_measure_93 : decode cX3_measure 93 = .ok (.getfield 19, 3) := by decide +kernel
theorem dX3_measure_96 : decode cX3_measure 96 = .ok (.iload_n 3, 1) := by decide +kernel
theorem dX3_measure_97 : decode cX3_measure 97 = .ok (.iaload, 1) := by decide +kernel
theorem dX3_measure_98 : decode cX3_measure 98 = .ok (.aload_n 1, 1) := by decide +kernel
theorem dX3_measure_99 : decode cX3_measure 99 = .ok (.getfield 85, 3) := by decide +kernel
theorem dX3_measure_102 : decode cX3_measure 102 = .ok (.iload_n 2, 1) := by decide +kernel
theorem dX3_measure_103 : decode cX3_measure 103 = .ok (.iaload, 1) := by decide +kernel
theorem dX3_measure_104 : decode cX3_measure 104 = .ok (.invokestatic 92, 3) := by decide +kernel
theorem dX3_measure_107 : decode cX3_measure 107 = .ok (.iastore, 1) := by decide +kernel
theorem dX3_measure_108 : decode cX3_measure 108 = .ok (.aload_n 0, 1) := by decide +kernel
theorem dX3_measure_109 : decode cX3_measure 109 = .ok (.aload_n 1, 1) := by decide +kernel
theorem dX3_measure_110 : decode cX3_measure 110 = .ok (.iload_n 2, 1) := by decide +kernel
theorem dX3_measure_111 : decode cX3_measure 111 = .ok (.invokevirtual 111, 3) := by decide +kernel
theorem dX3_measure_114 : decode cX3_measure 114 = .ok (.iinc 2 1, 3) := by decide +kernel
theorem dX3_measure_117 : decode cX3_measure 117 = .ok (.goto (-72), 3) := by decide +kernel
theorem dX3_measure_120 : decode cX3_measure 120 = .ok (.aload_n 0, 1) := by decide +kernel
theorem dX3_measure_121 : decode cX3_measure 121 = .ok (.aload_n 1, 1) := by decide +kernel
theorem dX3_measure_122 : decode cX3_measure 122 = .ok (.invokevirtual 114, 3) := by decide +kernel
theorem dX3_measure_125 : decode cX3_measure 125 = .ok (.return_, 1) := by decide +kernel
theorem dX3_passesOverDam_0 : decode cX3_passesOverDam 0 = .ok (.aload_n 1, 1) := by decide +kernel
theorem dX3_passesOverDam_1 : decode cX3_passesOverDam 1 = .ok (.getfield 85, 3) := by decide +kernel
theorem dX3_passesOverDam_4 : decode cX3_passesOverDam 4 = .ok (.iload_n 2, 1) := by decide +kernel
theorem dX3_passesOverDam_5 : decode cX3_passesOverDam 5 = .ok (.iaload, 1) := by decide +kernel
theorem dX3_passesOverDam_6 : decode cX3_passesOverDam 6 = .ok (.istore_n 3, 1) := by decide +kernel
theorem dX3_passesOverDam_7 : decode cX3_passesOverDam 7 = .ok (.iconst 0, 1) := by decide +kernel
theorem dX3_passesOverDam_8 : decode cX3_passesOverDam 8 = .ok (.istore 4, 2) := by decide +kernel
theorem dX3_passesOverDam_10 : decode cX3_passesOverDam 10 = .ok (.iload 4, 2) := by decide +kernel
theorem dX3_passesOverDam_12 : decode cX3_passesOverDam 12 = .ok (.iconst 4, 1) := by decide +kernel
theorem dX3_passesOverDam_13 : decode cX3_passesOverDam 13 = .ok (.if_icmp .ge 65, 3) := by decide +kernel
theorem dX3_passesOverDam_16 : decode cX3_passesOverDam 16 = .ok (.aload_n 1, 1) := by decide +kernel
theorem dX3_passesOverDam_17 : decode cX3_passesOverDam 17 = .ok (.iload_n 2, 1) := by decide +kernel
theorem dX3_passesOverDam_18 : decode cX3_passesOverDam 18 = .ok (.iload 4, 2) := by decide +kernel
theorem dX3_passesOverDam_20 : decode cX3_passesOverDam 20 = .ok (.aload_n 0, 1) := by decide +kernel
theorem dX3_passesOverDam_21 : decode cX3_passesOverDam 21 = .ok (.getfield 15, 3) := by decide +kernel
theorem dX3_passesOverDam_24 : decode cX3_passesOverDam 24 = .ok (.invokevirtual 98, 3) := by decide +kernel
theorem dX3_passesOverDam_27 : decode cX3_passesOverDam 27 = .ok (.istore 5, 2) := by decide +kernel
theorem dX3_passesOverDam_29 : decode cX3_passesOverDam 29 = .ok (.iload 4, 2) := by decide +kernel
theorem dX3_passesOverDam_31 : decode cX3_passesOverDam 31 = .ok (.iconst 1, 1) := by decide +kernel
theorem dX3_passesOverDam_32 : decode cX3_passesOverDam 32 = .ok (.iadd, 1) := by decide +kernel
theorem dX3_passesOverDam_33 : decode cX3_passesOverDam 33 = .ok (.istore 6, 2) := by decide +kernel
theorem dX3_passesOverDam_35 : decode cX3_passesOverDam 35 = .ok (.iload 5, 2) := by decide +kernel
theorem dX3_passesOverDam_37 : decode cX3_passesOverDam 37 = .ok (.bipush (-6), 2) := by decide +kernel
theorem dX3_passesOverDam_39 : decode cX3_passesOverDam 39 = .ok (.if_icmp .eq 33, 3) := by decide +kernel
theorem dX3_passesOverDam_42 : decode cX3_passesOverDam 42 = .ok (.iload 6, 2) := by decide +kernel
theorem dX3_passesOverDam_44 : decode cX3_passesOverDam 44 = .ok (.iconst 4, 1) := by decide +kernel
theorem dX3_passesOverDam_45 : decode cX3_passesOverDam 45 = .ok (.if_icmp .ge 27, 3) := by decide +kernel
theorem dX3_passesOverDam_48 : decode cX3_passesOverDam 48 = .ok (.aload_n 0, 1) := by decide +kernel
theorem dX3_passesOverDam_49 : decode cX3_passesOverDam 49 = .ok (.iload 5, 2) := by decide +kernel
theorem dX3_passesOverDam_51 : decode cX3_passesOverDam 51 = .ok (.aload_n 1, 1) := by decide +kernel
theorem dX3_passesOverDam_52 : decode cX3_passesOverDam 52 = .ok (.iload_n 2, 1) := by decide +kernel
theorem dX3_passesOverDam_53 : decode cX3_passesOverDam 53 = .ok (.iload 6, 2) := by decide +kernel
theorem dX3_passesOverDam_55 : decode cX3_passesOverDam 55 = .ok (.aload_n 0, 1) := by decide +kernel
theorem dX3_passesOverDam_56 : decode cX3_passesOverDam 56 = .ok (.getfield 15, 3) := by decide +kernel
theorem dX3_passesOverDam_59 : decode cX3_passesOverDam 59 = .ok (.invokevirtual 98, 3) := by decide +kernel
theorem dX3_passesOverDam_62 : decode cX3_passesOverDam 62 = .ok (.iload_n 3, 1) := by decide +kernel
theorem dX3_passesOverDam_63 : decode cX3_passesOverDam 63 = .ok (.invokevirtual 117, 3) := by decide +kernel
theorem dX3_passesOverDam_66 : decode cX3_passesOverDam 66 = .ok (.iinc 6 1, 3) := by decide +kernel
theorem dX3_passesOverDam_69 : decode cX3_passesOverDam 69 = .ok (.goto (-34), 3) := by decide +kernel
theorem dX3_passesOverDam_72 : decode cX3_passesOverDam 72 = .ok (.iinc 4 1, 3) := by decide +kernel
theorem dX3_passesOverDam_75 : decode cX3_passesOverDam 75 = .ok (.goto (-65), 3) := by decide +kernel
theorem dX3_passesOverDam_78 : decode cX3_passesOverDam 78 = .ok (.return_, 1) := by decide +kernel
theorem dX3_passesBeside_0 : decode cX3_passesBeside 0 = .ok (.iconst 0, 1) := by decide +kernel
theorem dX3_passesBeside_1 : decode cX3_passesBeside 1 = .ok (.istore_n 3, 1) := by decide +kernel
theorem dX3_passesBeside_2 : decode cX3_passesBeside 2 = .ok (.iload_n 3, 1) := by decide +kernel
theorem dX3_passesBeside_3 : decode cX3_passesBeside 3 = .ok (.iconst 2, 1) := by decide +kernel
theorem dX3_passesBeside_4 : decode cX3_passesBeside 4 = .ok (.if_icmp .ge 60, 3) := by decide +kernel
theorem dX3_passesBeside_7 : decode cX3_passesBeside 7 = .ok (.aload_n 1, 1) := by decide +kernel
theorem dX3_passesBeside_8 : decode cX3_passesBeside 8 = .ok (.iload_n 2, 1) := by decide +kernel
theorem dX3_passesBeside_9 : decode cX3_passesBeside 9 = .ok (.iload_n 3, 1) := by decide +kernel
theorem dX3_passesBeside_10 : decode cX3_passesBeside 10 = .ok (.invokevirtual 95, 3) := by decide +kernel
theorem dX3_passesBeside_13 : decode cX3_passesBeside 13 = .ok (.istore 4, 2) := by decide +kernel
theorem dX3_passesBeside_15 : decode cX3_passesBeside 15 = .ok (.iload 4, 2) := by decide +kernel
theorem dX3_passesBeside_17 : decode cX3_passesBeside 17 = .ok (.iconst (-1), 1) := by decide +kernel
theorem dX3_passesBeside_18 : decode cX3_passesBeside 18 = .ok (.if_icmp .eq 40, 3) := by decide +kernel
theorem dX3_passesBeside_21 : decode cX3_passesBeside 21 = .ok (.aload_n 1, 1) := by decide +kernel
theorem dX3_passesBeside_22 : decode cX3_passesBeside 22 = .ok (.getfield 85, 3) := by decide +kernel
theorem dX3_passesBeside_25 : decode cX3_passesBeside 25 = .ok (.iload_n 2, 1) := by decide +kernel
theorem dX3_passesBeside_26 : decode cX3_passesBeside 26 = .ok (.iaload, 1) := by decide +kernel
theorem dX3_passesBeside_27 : decode cX3_passesBeside 27 = .ok (.aload_n 1, 1) := by decide +kernel
theorem dX3_passesBeside_28 : decode cX3_passesBeside 28 = .ok (.getfield 85, 3) := by decide +kernel
theorem dX3_passesBeside_31 : decode cX3_passesBeside 31 = .ok (.iload 4, 2) := by decide +kernel
theorem dX3_passesBeside_33 : decode cX3_passesBeside 33 = .ok (.iaload, 1) := by decide +kernel
theorem dX3_passesBeside_34 : decode cX3_passesBeside 34 = .ok (.invokestatic 75, 3) := by decide +kernel
theorem dX3_passesBeside_37 : decode cX3_passesBeside 37 = .ok (.istore 5, 2) := by decide +kernel
theorem dX3_passesBeside_39 : decode cX3_passesBeside 39 = .ok (.aload_n 0, 1) := by decide +kernel
theorem dX3_passesBeside_40 : decode cX3_passesBeside 40 = .ok (.aload_n 0, 1) := by decide +kernel
theorem dX3_passesBeside_41 : decode cX3_passesBeside 41 = .ok (.getfield 15, 3) := by decide +kernel
theorem dX3_passesBeside_44 : decode cX3_passesBeside 44 = .ok (.iload_n 2, 1) := by decide +kernel
theorem dX3_passesBeside_45 : decode cX3_passesBeside 45 = .ok (.iaload, 1) := by decide +kernel
theorem dX3_passesBeside_46 : decode cX3_passesBeside 46 = .ok (.aload_n 0, 1) := by decide +kernel
theorem dX3_passesBeside_47 : decode cX3_passesBeside 47 = .ok (.getfield 15, 3) := by decide +kernel
theorem dX3_passesBeside_50 : decode cX3_passesBeside 50 = .ok (.iload 4, 2) := by decide +kernel
theorem dX3_passesBeside_52 : decode cX3_passesBeside 52 = .ok (.iaload, 1) := by decide +kernel
theorem dX3_passesBeside_53 : decode cX3_passesBeside 53 = .ok (.iload 5, 2) := by decide +kernel
theorem dX3_passesBeside_55 : decode cX3_passesBeside 55 = .ok (.invokevirtual 117, 3) := by decide +kernel
theorem dX3_passesBeside_58 : decode cX3_passesBeside 58 = .ok (.iinc 3 1, 3) := by decide +kernel
theorem dX3_passesBeside_61 : decode cX3_passesBeside 61 = .ok (.goto (-59), 3) := by decide +kernel
theorem dX3_passesBeside_64 : decode cX3_passesBeside 64 = .ok (.return_, 1) := by decide +kernel
theorem dX3_notePass_0 : decode cX3_notePass 0 = .ok (.iload_n 1, 1) := by decide +kernel
theorem dX3_notePass_1 : decode cX3_notePass 1 = .ok (.ifCond .le 26, 3) := by decide +kernel
theorem dX3_notePass_4 : decode cX3_notePass 4 = .ok (.iload_n 2, 1) := by decide +kernel
theorem dX3_notePass_5 : decode cX3_notePass 5 = .ok (.ifCond .le 22, 3) := by decide +kernel
theorem dX3_notePass_8 : decode cX3_notePass 8 = .ok (.iload_n 1, 1) := by decide +kernel
theorem dX3_notePass_9 : decode cX3_notePass 9 = .ok (.iload_n 2, 1) := by decide +kernel
theorem dX3_notePass_10 : decode cX3_notePass 10 = .ok (.if_icmp .eq 17, 3) := by decide +kernel
theorem dX3_notePass_13 : decode cX3_notePass 13 = .ok (.aload_n 0, 1) := by decide +kernel
theorem dX3_notePass_14 : decode cX3_notePass 14 = .ok (.iload_n 1, 1) := by decide +kernel
theorem dX3_notePass_15 : decode cX3_notePass 15 = .ok (.iload_n 2, 1) := by decide +kernel
theorem dX3_notePass_16 : decode cX3_notePass 16 = .ok (.iload_n 3, 1) := by decide +kernel
theorem dX3_notePass_17 : decode cX3_notePass 17 = .ok (.invokevirtual 121, 3) := by decide +kernel
theorem dX3_notePass_20 : decode cX3_notePass 20 = .ok (.aload_n 0, 1) := by decide +kernel
theorem dX3_notePass_21 : decode cX3_notePass 21 = .ok (.iload_n 2, 1) := by decide +kernel
theorem dX3_notePass_22 : decode cX3_notePass 22 = .ok (.iload_n 1, 1) := by decide +kernel
theorem dX3_notePass_23 : decode cX3_notePass 23 = .ok (.iload_n 3, 1) := by decide +kernel
theorem dX3_notePass_24 : decode cX3_notePass 24 = .ok (.invokevirtual 121, 3) := by decide +kernel
theorem dX3_notePass_27 : decode cX3_notePass 27 = .ok (.return_, 1) := by decide +kernel
theorem dX3_noteWayOut_0 : decode cX3_noteWayOut 0 = .ok (.iload_n 3, 1) := by decide +kernel
theorem dX3_noteWayOut_1 : decode cX3_noteWayOut 1 = .ok (.aload_n 0, 1) := by decide +kernel
theorem dX3_noteWayOut_2 : decode cX3_noteWayOut 2 = .ok (.getfield 22, 3) := by decide +kernel
theorem dX3_noteWayOut_5 : decode cX3_noteWayOut 5 = .ok (.iload_n 1, 1) := by decide +kernel
theorem dX3_noteWayOut_6 : decode cX3_noteWayOut 6 = .ok (.iaload, 1) := by decide +kernel
theorem dX3_noteWayOut_7 : decode cX3_noteWayOut 7 = .ok (.if_icmp .ge 7, 3) := by decide +kernel
theorem dX3_noteWayOut_10 : decode cX3_noteWayOut 10 = .ok (.iconst 1, 1) := by decide +kernel
theorem dX3_noteWayOut_11 : decode cX3_noteWayOut 11 = .ok (.goto 4, 3) := by decide +kernel
theorem dX3_noteWayOut_14 : decode cX3_noteWayOut 14 = .ok (.iconst 0, 1) := by decide +kernel
theorem dX3_noteWayOut_15 : decode cX3_noteWayOut 15 = .ok (.istore 4, 2) := by decide +kernel
theorem dX3_noteWayOut_17 : decode cX3_noteWayOut 17 = .ok (.iload 4, 2) := by decide +kernel
theorem dX3_noteWayOut_19 : decode cX3_noteWayOut 19 = .ok (.ifCond .ne 23, 3) := by decide +kernel
theorem dX3_noteWayOut_22 : decode cX3_noteWayOut 22 = .ok (.iload_n 3, 1) := by decide +kernel
theorem dX3_noteWayOut_23 : decode cX3_noteWayOut 23 = .ok (.aload_n 0, 1) := by decide +kernel
theorem dX3_noteWayOut_24 : decode cX3_noteWayOut 24 = .ok (.getfield 22, 3) := by decide +kernel
theorem dX3_noteWayOut_27 : decode cX3_noteWayOut 27 = .ok (.iload_n 1, 1) := by decide +kernel
theorem dX3_noteWayOut_28 : decode cX3_noteWayOut 28 = .ok (.iaload, 1) := by decide +kernel
theorem dX3_noteWayOut_29 : decode cX3_noteWayOut 29 = .ok (.if_icmp .ne 27, 3) := by decide +kernel
theorem dX3_noteWayOut_32 : decode cX3_noteWayOut 32 = .ok (.iload_n 2, 1) := by decide +kernel
theorem dX3_noteWayOut_33 : decode cX3_noteWayOut 33 = .ok (.aload_n 0, 1) := by decide +kernel
theorem dX3_noteWayOut_34 : decode cX3_noteWayOut 34 = .ok (.getfield 25, 3) := by decide +kernel
theorem dX3_noteWayOut_37 : decode cX3_noteWayOut 37 = .ok (.iload_n 1, 1) := by decide +kernel
theorem dX3_noteWayOut_38 : decode cX3_noteWayOut 38 = .ok (.iaload, 1) := by decide +kernel
theorem dX3_noteWayOut_39 : decode cX3_noteWayOut 39 = .ok (.if_icmp .ge 17, 3) := by decide +kernel
theorem dX3_noteWayOut_42 : decode cX3_noteWayOut 42 = .ok (.aload_n 0, 1) := by decide +kernel
theorem dX3_noteWayOut_43 : decode cX3_noteWayOut 43 = .ok (.getfield 22, 3) := by decide +kernel
theorem dX3_noteWayOut_46 : decode cX3_noteWayOut 46 = .ok (.iload_n 1, 1) := by decide +kernel
theorem dX3_noteWayOut_47 : decode cX3_noteWayOut 47 = .ok (.iload_n 3, 1) := by decide +kernel
theorem dX3_noteWayOut_48 : decode cX3_noteWayOut 48 = .ok (.iastore, 1) := by decide +kernel
theorem dX3_noteWayOut_49 : decode cX3_noteWayOut 49 = .ok (.aload_n 0, 1) := by decide +kernel
theorem dX3_noteWayOut_50 : decode cX3_noteWayOut 50 = .ok (.getfield 25, 3) := by decide +kernel
theorem dX3_noteWayOut_53 : decode cX3_noteWayOut 53 = .ok (.iload_n 1, 1) := by decide +kernel
theorem dX3_noteWayOut_54 : decode cX3_noteWayOut 54 = .ok (.iload_n 2, 1) := by decide +kernel
theorem dX3_noteWayOut_55 : decode cX3_noteWayOut 55 = .ok (.iastore, 1) := by decide +kernel
theorem dX3_noteWayOut_56 : decode cX3_noteWayOut 56 = .ok (.return_, 1) := by decide +kernel
theorem dX3_fillWaters_0 : decode cX3_fillWaters 0 = .ok (.iconst 0, 1) := by decide +kernel
theorem dX3_fillWaters_1 : decode cX3_fillWaters 1 = .ok (.istore_n 2, 1) := by decide +kernel
theorem dX3_fillWaters_2 : decode cX3_fillWaters 2 = .ok (.iload_n 2, 1) := by decide +kernel
theorem dX3_fillWaters_3 : decode cX3_fillWaters 3 = .ok (.aload_n 1, 1) := by decide +kernel
theorem dX3_fillWaters_4 : decode cX3_fillWaters 4 = .ok (.getfield 80, 3) := by decide +kernel
theorem dX3_fillWaters_7 : decode cX3_fillWaters 7 = .ok (.if_icmp .ge 57, 3) := by decide +kernel
theorem dX3_fillWaters_10 : decode cX3_fillWaters 10 = .ok (.aload_n 0, 1) := by decide +kernel
theorem dX3_fillWaters_11 : decode cX3_fillWaters 11 = .ok (.getfield 15, 3) := by decide +kernel
theorem dX3_fillWaters_14 : decode cX3_fillWaters 14 = .ok (.iload_n 2, 1) := by decide +kernel
theorem dX3_fillWaters_15 : decode cX3_fillWaters 15 = .ok (.iaload, 1) := by decide +kernel
theorem dX3_fillWaters_16 : decode cX3_fillWaters 16 = .ok (.istore_n 3, 1) := by decide +kernel
theorem dX3_fillWaters_17 : decode cX3_fillWaters 17 = .ok (.iload_n 3, 1) := by decide +kernel
theorem dX3_fillWaters_18 : decode cX3_fillWaters 18 = .ok (.ifCond .le 40, 3) := by decide +kernel
theorem dX3_fillWaters_21 : decode cX3_fillWaters 21 = .ok (.aload_n 0, 1) := by decide +kernel
theorem dX3_fillWaters_22 : decode cX3_fillWaters 22 = .ok (.getfield 22, 3) := by decide +kernel
theorem dX3_fillWaters_25 : decode cX3_fillWaters 25 = .ok (.iload_n 3, 1) := by decide +kernel
theorem dX3_fillWaters_26 : decode cX3_fillWaters 26 = .ok (.iaload, 1) := by decide +kernel
theorem dX3_fillWaters_27 : decode cX3_fillWaters 27 = .ok (.bipush 100, 2) := by decide +kernel
theorem dX3_fillWaters_29 : decode cX3_fillWaters 29 = .ok (.if_icmp .eq 29, 3) := by decide +kernel
theorem dX3_fillWaters_32 : decode cX3_fillWaters 32 = .ok (.aload_n 0, 1) := by decide +kernel
theorem dX3_fillWaters_33 : decode cX3_fillWaters 33 = .ok (.getfield 31, 3) := by decide +kernel
theorem dX3_fillWaters_36 : decode cX3_fillWaters 36 = .ok (.iload_n 3, 1) := by decide +kernel
theorem dX3_fillWaters_37 : decode cX3_fillWaters 37 = .ok (.dup2, 1) := by decide +kernel
theorem dX3_fillWaters_38 : decode cX3_fillWaters 38 = .ok (.iaload, 1) := by decide +kernel
theorem dX3_fillWaters_39 : decode cX3_fillWaters 39 = .ok (.aload_n 0, 1) := by decide +kernel
theorem dX3_fillWaters_40 : decode cX3_fillWaters 40 = .ok (.getfield 22, 3) := by decide +kernel
theorem dX3_fillWaters_43 : decode cX3_fillWaters 43 = .ok (.iload_n 3, 1) := by decide +kernel
theorem dX3_fillWaters_44 : decode cX3_fillWaters 44 = .ok (.iaload, 1) := by decide +kernel
theorem dX3_fillWaters_45 : decode cX3_fillWaters 45 = .ok (.aload_n 1, 1) := by decide +kernel
theorem dX3_fillWaters_46 : decode cX3_fillWaters 46 = .ok (.getfield 85, 3) := by decide +kernel
theorem dX3_fillWaters_49 : decode cX3_fillWaters 49 = .ok (.iload_n 2, 1) := by decide +kernel
theorem dX3_fillWaters_50 : decode cX3_fillWaters 50 = .ok (.iaload, 1) := by decide +kernel
theorem dX3_fillWaters_51 : decode cX3_fillWaters 51 = .ok (.isub, 1) := by decide +kernel
theorem dX3_fillWaters_52 : decode cX3_fillWaters 52 = .ok (.iconst 0, 1) := by decide +kernel
theorem dX3_fillWaters_53 : decode cX3_fillWaters 53 = .ok (.invokestatic 75, 3) := by decide +kernel
theorem dX3_fillWaters_56 : decode cX3_fillWaters 56 = .ok (.iadd, 1) := by decide +kernel
theorem dX3_fillWaters_57 : decode cX3_fillWaters 57 = .ok (.iastore, 1) := by decide +kernel
theorem dX3_fillWaters_58 : decode cX3_fillWaters 58 = .ok (.iinc 2 1, 3) := by decide +kernel
theorem dX3_fillWaters_61 : decode cX3_fillWaters 61 = .ok (.goto (-59), 3) := by decide +kernel
theorem dX3_fillWaters_64 : decode cX3_fillWaters 64 = .ok (.return_, 1) := by decide +kernel
theorem dX3_nextToPour_0 : decode cX3_nextToPour 0 = .ok (.bipush (-6), 2) := by decide +kernel
theorem dX3_nextToPour_2 : decode cX3_nextToPour 2 = .ok (.istore_n 3, 1) := by decide +kernel
theorem dX3_nextToPour_3 : decode cX3_nextToPour 3 = .ok (.bipush 100, 2) := by decide +kernel
theorem dX3_nextToPour_5 : decode cX3_nextToPour 5 = .ok (.istore 4, 2) := by decide +kernel
theorem dX3_nextToPour_7 : decode cX3_nextToPour 7 = .ok (.iconst 1, 1) := by decide +kernel
theorem dX3_nextToPour_8 : decode cX3_nextToPour 8 = .ok (.istore 5, 2) := by decide +kernel
theorem dX3_nextToPour_10 : decode cX3_nextToPour 10 = .ok (.iload 5, 2) := by decide +kernel
theorem dX3_nextToPour_12 : decode cX3_nextToPour 12 = .ok (.bipush 99, 2) := by decide +kernel
theorem dX3_nextToPour_14 : decode cX3_nextToPour 14 = .ok (.if_icmp .gt 44, 3) := by decide +kernel
theorem dX3_nextToPour_17 : decode cX3_nextToPour 17 = .ok (.aload_n 0, 1) := by decide +kernel
theorem dX3_nextToPour_18 : decode cX3_nextToPour 18 = .ok (.getfield 22, 3) := by decide +kernel
theorem dX3_nextToPour_21 : decode cX3_nextToPour 21 = .ok (.iload 5, 2) := by decide +kernel
theorem dX3_nextToPour_23 : decode cX3_nextToPour 23 = .ok (.iaload, 1) := by decide +kernel
theorem dX3_nextToPour_24 : decode cX3_nextToPour 24 = .ok (.iload 4, 2) := by decide +kernel
theorem dX3_nextToPour_26 : decode cX3_nextToPour 26 = .ok (.if_icmp .ge 26, 3) := by decide +kernel
theorem dX3_nextToPour_29 : decode cX3_nextToPour 29 = .ok (.aload_n 0, 1) := by decide +kernel
theorem dX3_nextToPour_30 : decode cX3_nextToPour 30 = .ok (.iload 5, 2) := by decide +kernel
theorem dX3_nextToPour_32 : decode cX3_nextToPour 32 = .ok (.iload_n 1, 1) := by decide +kernel
theorem dX3_nextToPour_33 : decode cX3_nextToPour 33 = .ok (.invokevirtual 124, 3) := by decide +kernel
theorem dX3_nextToPour_36 : decode cX3_nextToPour 36 = .ok (.iload_n 2, 1) := by decide +kernel
theorem dX3_nextToPour_37 : decode cX3_nextToPour 37 = .ok (.if_icmp .ge 15, 3) := by decide +kernel
theorem dX3_nextToPour_40 : decode cX3_nextToPour 40 = .ok (.aload_n 0, 1) := by decide +kernel
theorem dX3_nextToPour_41 : decode cX3_nextToPour 41 = .ok (.getfield 22, 3) := by decide +kernel
theorem dX3_nextToPour_44 : decode cX3_nextToPour 44 = .ok (.iload 5, 2) := by decide +kernel
theorem dX3_nextToPour_46 : decode cX3_nextToPour 46 = .ok (.iaload, 1) := by decide +kernel
theorem dX3_nextToPour_47 : decode cX3_nextToPour 47 = .ok (.istore 4, 2) := by decide +kernel
theorem dX3_nextToPour_49 : decode cX3_nextToPour 49 = .ok (.iload 5, 2) := by decide +kernel
theorem dX3_nextToPour_51 : decode cX3_nextToPour 51 = .ok (.istore_n 3, 1) := by decide +kernel
theorem dX3_nextToPour_52 : decode cX3_nextToPour 52 = .ok (.iinc 5 1, 3) := by decide +kernel
theorem dX3_nextToPour_55 : decode cX3_nextToPour 55 = .ok (.goto (-45), 3) := by decide +kernel
theorem dX3_nextToPour_58 : decode cX3_nextToPour 58 = .ok (.iload_n 3, 1) := by decide +kernel
theorem dX3_nextToPour_59 : decode cX3_nextToPour 59 = .ok (.ireturn, 1) := by decide +kernel
theorem dX3_pourOut_0 : decode cX3_pourOut 0 = .ok (.aload_n 0, 1) := by decide +kernel
theorem dX3_pourOut_1 : decode cX3_pourOut 1 = .ok (.getfield 25, 3) := by decide +kernel
theorem dX3_pourOut_4 : decode cX3_pourOut 4 = .ok (.iload_n 2, 1) := by decide +kernel
theorem dX3_pourOut_5 : decode cX3_pourOut 5 = .ok (.iaload, 1) := by decide +kernel
theorem dX3_pourOut_6 : decode cX3_pourOut 6 = .ok (.istore_n 3, 1) := by decide +kernel
theorem dX3_pourOut_7 : decode cX3_pourOut 7 = .ok (.iconst 0, 1) := by decide +kernel
theorem dX3_pourOut_8 : decode cX3_pourOut 8 = .ok (.istore 4, 2) := by decide +kernel
theorem dX3_pourOut_10 : decode cX3_pourOut 10 = .ok (.iload 4, 2) := by decide +kernel
theorem dX3_pourOut_12 : decode cX3_pourOut 12 = .ok (.aload_n 1, 1) := by decide +kernel
theorem dX3_pourOut_13 : decode cX3_pourOut 13 = .ok (.getfield 80, 3) := by decide +kernel
theorem dX3_pourOut_16 : decode cX3_pourOut 16 = .ok (.if_icmp .ge 28, 3) := by decide +kernel
theorem dX3_pourOut_19 : decode cX3_pourOut 19 = .ok (.aload_n 0, 1) := by decide +kernel
theorem dX3_pourOut_20 : decode cX3_pourOut 20 = .ok (.getfield 15, 3) := by decide +kernel
theorem dX3_pourOut_23 : decode cX3_pourOut 23 = .ok (.iload 4, 2) := by decide +kernel
theorem dX3_pourOut_25 : decode cX3_pourOut 25 = .ok (.iaload, 1) := by decide +kernel
theorem dX3_pourOut_26 : decode cX3_pourOut 26 = .ok (.iload_n 2, 1) := by decide +kernel
theorem dX3_pourOut_27 : decode cX3_pourOut 27 = .ok (.if_icmp .ne 11, 3) := by decide +kernel
theorem dX3_pourOut_30 : decode cX3_pourOut 30 = .ok (.aload_n 0, 1) := by decide +kernel
theorem dX3_pourOut_31 : decode cX3_pourOut 31 = .ok (.getfield 15, 3) := by decide +kernel
theorem dX3_pourOut_34 : decode cX3_pourOut 34 = .ok (.iload 4, 2) := by decide +kernel
theorem dX3_pourOut_36 : decode cX3_pourOut 36 = .ok (.iload_n 3, 1) := by decide +kernel
theorem dX3_pourOut_37 : decode cX3_pourOut 37 = .ok (.iastore, 1) := by decide +kernel
theorem dX3_pourOut_38 : decode cX3_pourOut 38 = .ok (.iinc 4 1, 3) := by decide +kernel
theorem dX3_pourOut_41 : decode cX3_pourOut 41 = .ok (.goto (-31), 3) := by decide +kernel
theorem dX3_pourOut_44 : decode cX3_pourOut 44 = .ok (.aload_n 0, 1) := by decide +kernel
theorem dX3_pourOut_45 : decode cX3_pourOut 45 = .ok (.getfield 34, 3) := by decide +kernel
theorem dX3_pourOut_48 : decode cX3_pourOut 48 = .ok (.aload_n 0, 1) := by decide +kernel
theorem dX3_pourOut_49 : decode cX3_pourOut 49 = .ok (.getfield 9, 3) := by decide +kernel
theorem dX3_pourOut_52 : decode cX3_pourOut 52 = .ok (.iload_n 2, 1) := by decide +kernel
theorem dX3_pourOut_53 : decode cX3_pourOut 53 = .ok (.iastore, 1) := by decide +kernel
theorem dX3_pourOut_54 : decode cX3_pourOut 54 = .ok (.aload_n 0, 1) := by decide +kernel
theorem dX3_pourOut_55 : decode cX3_pourOut 55 = .ok (.getfield 37, 3) := by decide +kernel
theorem dX3_pourOut_58 : decode cX3_pourOut 58 = .ok (.aload_n 0, 1) := by decide +kernel
theorem dX3_pourOut_59 : decode cX3_pourOut 59 = .ok (.getfield 9, 3) := by decide +kernel
theorem dX3_pourOut_62 : decode cX3_pourOut 62 = .ok (.iload_n 3, 1) := by decide +kernel
theorem dX3_pourOut_63 : decode cX3_pourOut 63 = .ok (.iastore, 1) := by decide +kernel
theorem dX3_pourOut_64 : decode cX3_pourOut 64 = .ok (.aload_n 0, 1) := by decide +kernel
theorem dX3_pourOut_65 : decode cX3_pourOut 65 = .ok (.getfield 40, 3) := by decide +kernel
theorem dX3_pourOut_68 : decode cX3_pourOut 68 = .ok (.aload_n 0, 1) := by decide +kernel
theorem dX3_pourOut_69 : decode cX3_pourOut 69 = .ok (.getfield 9, 3) := by decide +kernel
theorem dX3_pourOut_72 : decode cX3_pourOut 72 = .ok (.aload_n 0, 1) := by decide +kernel
theorem dX3_pourOut_73 : decode cX3_pourOut 73 = .ok (.getfield 22, 3) := by decide +kernel
theorem dX3_pourOut_76 : decode cX3_pourOut 76 = .ok (.iload_n 2, 1) := by decide +kernel
theorem dX3_pourOut_77 : decode cX3_pourOut 77 = .ok (.iaload, 1) := by decide +kernel
theorem dX3_pourOut_78 : decode cX3_pourOut 78 = .ok (.iastore, 1) := by decide +kernel
theorem dX3_pourOut_79 : decode cX3_pourOut 79 = .ok (.return_, 1) := by decide +kernel
theorem dX3_breakDams_0 : decode cX3_breakDams 0 = .ok (.iconst 0, 1) := by decide +kernel
theorem dX3_breakDams_1 : decode cX3_breakDams 1 = .ok (.istore_n 2, 1) := by decide +kernel
theorem dX3_breakDams_2 : decode cX3_breakDams 2 = .ok (.iconst 0, 1) := by decide +kernel
theorem dX3_breakDams_3 : decode cX3_breakDams 3 = .ok (.istore_n 3, 1) := by decide +kernel
theorem dX3_breakDams_4 : decode cX3_breakDams 4 = .ok (.iload_n 3, 1) := by decide +kernel
theorem dX3_breakDams_5 : decode cX3_breakDams 5 = .ok (.aload_n 1, 1) := by decide +kernel
theorem dX3_breakDams_6 : decode cX3_breakDams 6 = .ok (.getfield 80, 3) := by decide +kernel
theorem dX3_breakDams_9 : decode cX3_breakDams 9 = .ok (.if_icmp .ge 57, 3) := by decide +kernel
theorem dX3_breakDams_12 : decode cX3_breakDams 12 = .ok (.aload_n 0, 1) := by decide +kernel
theorem dX3_breakDams_13 : decode cX3_breakDams 13 = .ok (.getfield 46, 3) := by decide +kernel
theorem dX3_breakDams_16 : decode cX3_breakDams 16 = .ok (.iload_n 3, 1) := by decide +kernel
theorem dX3_breakDams_17 : decode cX3_breakDams 17 = .ok (.aload_n 0, 1) := by decide +kernel
theorem dX3_breakDams_18 : decode cX3_breakDams 18 = .ok (.getfield 15, 3) := by decide +kernel
theorem dX3_breakDams_21 : decode cX3_breakDams 21 = .ok (.iload_n 3, 1) := by decide +kernel
theorem dX3_breakDams_22 : decode cX3_breakDams 22 = .ok (.iaload, 1) := by decide +kernel
theorem dX3_breakDams_23 : decode cX3_breakDams 23 = .ok (.iastore, 1) := by decide +kernel
theorem dX3_breakDams_24 : decode cX3_breakDams 24 = .ok (.aload_n 0, 1) := by decide +kernel
theorem dX3_breakDams_25 : decode cX3_breakDams 25 = .ok (.getfield 15, 3) := by decide +kernel
theorem dX3_breakDams_28 : decode cX3_breakDams 28 = .ok (.iload_n 3, 1) := by decide +kernel
theorem dX3_breakDams_29 : decode cX3_breakDams 29 = .ok (.iaload, 1) := by decide +kernel
theorem dX3_breakDams_30 : decode cX3_breakDams 30 = .ok (.ifCond .ne 30, 3) := by decide +kernel
theorem dX3_breakDams_33 : decode cX3_breakDams 33 = .ok (.aload_n 1, 1) := by decide +kernel
theorem dX3_breakDams_34 : decode cX3_breakDams 34 = .ok (.iload_n 3, 1) := by decide +kernel
theorem dX3_breakDams_35 : decode cX3_breakDams 35 = .ok (.aload_n 0, 1) := by decide +kernel
theorem dX3_breakDams_36 : decode cX3_breakDams 36 = .ok (.getfield 15, 3) := by decide +kernel
theorem dX3_breakDams_39 : decode cX3_breakDams 39 = .ok (.invokevirtual 127, 3) := by decide +kernel
theorem dX3_breakDams_42 : decode cX3_breakDams 42 = .ok (.istore 4, 2) := by decide +kernel
theorem dX3_breakDams_44 : decode cX3_breakDams 44 = .ok (.iload 4, 2) := by decide +kernel
theorem dX3_breakDams_46 : decode cX3_breakDams 46 = .ok (.ifCond .le 14, 3) := by decide +kernel
theorem dX3_breakDams_49 : decode cX3_breakDams 49 = .ok (.aload_n 0, 1) := by decide +kernel
theorem dX3_breakDams_50 : decode cX3_breakDams 50 = .ok (.getfield 46, 3) := by decide +kernel
theorem dX3_breakDams_53 : decode cX3_breakDams 53 = .ok (.iload_n 3, 1) := by decide +kernel
theorem dX3_breakDams_54 : decode cX3_breakDams 54 = .ok (.iload 4, 2) := by decide +kernel
theorem dX3_breakDams_56 : decode cX3_breakDams 56 = .ok (.iastore, 1) := by decide +kernel
theorem dX3_breakDams_57 : decode cX3_breakDams 57 = .ok (.iinc 2 1, 3) := by decide +kernel
theorem dX3_breakDams_60 : decode cX3_breakDams 60 = .ok (.iinc 3 1, 3) := by decide +kernel
theorem dX3_breakDams_63 : decode cX3_breakDams 63 = .ok (.goto (-59), 3) := by decide +kernel
theorem dX3_breakDams_66 : decode cX3_breakDams 66 = .ok (.aload_n 0, 1) := by decide +kernel
theorem dX3_breakDams_67 : decode cX3_breakDams 67 = .ok (.getfield 46, 3) := by decide +kernel
theorem dX3_breakDams_70 : decode cX3_breakDams 70 = .ok (.iconst 0, 1) := by decide +kernel
theorem dX3_breakDams_71 : decode cX3_breakDams 71 = .ok (.aload_n 0, 1) := by decide +kernel
theorem dX3_breakDams_72 : decode cX3_breakDams 72 = .ok (.getfield 15, 3) := by decide +kernel
theorem dX3_breakDams_75 : decode cX3_breakDams 75 = .ok (.iconst 0, 1) := by decide +kernel
theorem dX3_breakDams_76 : decode cX3_breakDams 76 = .ok (.aload_n 1, 1) := by decide +kernel
theorem dX3_breakDams_77 : decode cX3_breakDams 77 = .ok (.getfield 80, 3) := by decide +kernel
theorem dX3_breakDams_80 : decode cX3_breakDams 80 = .ok (.invokestatic 49, 3) := by decide +kernel
theorem dX3_breakDams_83 : decode cX3_breakDams 83 = .ok (.iload_n 2, 1) := by decide +kernel
theorem dX3_breakDams_84 : decode cX3_breakDams 84 = .ok (.ireturn, 1) := by decide +kernel
theorem dX4_init_0 : decode cX4_init 0 = .ok (.aload_n 0, 1) := by decide +kernel
theorem dX4_init_1 : decode cX4_init 1 = .ok (.invokespecial 3, 3) := by decide +kernel
theorem dX4_init_4 : decode cX4_init 4 = .ok (.aload_n 0, 1) := by decide +kernel
theorem dX4_init_5 : decode cX4_init 5 = .ok (.iconst 0, 1) := by decide +kernel
theorem dX4_init_6 : decode cX4_init 6 = .ok (.putfield 9, 3) := by decide +kernel
theorem dX4_init_9 : decode cX4_init 9 = .ok (.aload_n 0, 1) := by decide +kernel
theorem dX4_init_10 : decode cX4_init 10 = .ok (.sipush 144, 3) := by decide +kernel
theorem dX4_init_13 : decode cX4_init 13 = .ok (.newarray .int, 2) := by decide +kernel
theorem dX4_init_15 : decode cX4_init 15 = .ok (.putfield 15, 3) := by decide +kernel
theorem dX4_init_18 : decode cX4_init 18 = .ok (.aload_n 0, 1) := by decide +kernel
theorem dX4_init_19 : decode cX4_init 19 = .ok (.sipush 144, 3) := by decide +kernel
theorem dX4_init_22 : decode cX4_init 22 = .ok (.newarray .int, 2) := by decide +kernel
theorem dX4_init_24 : decode cX4_init 24 = .ok (.putfield 19, 3) := by decide +kernel
theorem dX4_init_27 : decode cX4_init 27 = .ok (.return_, 1) := by decide +kernel
theorem dX4_forget_0 : decode cX4_forget 0 = .ok (.aload_n 0, 1) := by decide +kernel
theorem dX4_forget_1 : decode cX4_forget 1 = .ok (.getfield 19, 3) := by decide +kernel
theorem dX4_forget_4 : decode cX4_forget 4 = .ok (.iconst 0, 1) := by decide +kernel
theorem dX4_forget_5 : decode cX4_forget 5 = .ok (.invokestatic 22, 3) := by decide +kernel
theorem dX4_forget_8 : decode cX4_forget 8 = .ok (.return_, 1) := by decide +kernel
theorem dX4_cameTo_0 : decode cX4_cameTo 0 = .ok (.aload_n 0, 1) := by decide +kernel
theorem dX4_cameTo_1 : decode cX4_cameTo 1 = .ok (.getfield 19, 3) := by decide +kernel
theorem dX4_cameTo_4 : decode cX4_cameTo 4 = .ok (.iload_n 1, 1) := by decide +kernel
theorem dX4_cameTo_5 : decode cX4_cameTo 5 = .ok (.iaload, 1) := by decide +kernel
theorem dX4_cameTo_6 : decode cX4_cameTo 6 = .ok (.ifCond .eq 7, 3) := by decide +kernel
theorem dX4_cameTo_9 : decode cX4_cameTo 9 = .ok (.iconst 1, 1) := by decide +kernel
theorem dX4_cameTo_10 : decode cX4_cameTo 10 = .ok (.goto 4, 3) := by decide +kernel
theorem dX4_cameTo_13 : decode cX4_cameTo 13 = .ok (.iconst 0, 1) := by decide +kernel
theorem dX4_cameTo_14 : decode cX4_cameTo 14 = .ok (.ireturn, 1) := by decide +kernel
theorem dX4_from_0 : decode cX4_from 0 = .ok (.aload_n 0, 1) := by decide +kernel
theorem dX4_from_1 : decode cX4_from 1 = .ok (.iconst 0, 1) := by decide +kernel
theorem dX4_from_2 : decode cX4_from 2 = .ok (.putfield 9, 3) := by decide +kernel
theorem dX4_from_5 : decode cX4_from 5 = .ok (.aload_n 0, 1) := by decide +kernel
theorem dX4_from_6 : decode cX4_from 6 = .ok (.aload_n 1, 1) := by decide +kernel
theorem dX4_from_7 : decode cX4_from 7 = .ok (.iload_n 2, 1) := by decide +kernel
theorem dX4_from_8 : decode cX4_from 8 = .ok (.iload_n 3, 1) := by decide +kernel
theorem dX4_from_9 : decode cX4_from 9 = .ok (.iload 4, 2) := by decide +kernel
theorem dX4_from_11 : decode cX4_from 11 = .ok (.invokevirtual 28, 3) := by decide +kernel
theorem dX4_from_14 : decode cX4_from 14 = .ok (.iconst 0, 1) := by decide +kernel
theorem dX4_from_15 : decode cX4_from 15 = .ok (.istore 5, 2) := by decide +kernel
theorem dX4_from_17 : decode cX4_from 17 = .ok (.iload 5, 2) := by decide +kernel
theorem dX4_from_19 : decode cX4_from 19 = .ok (.aload_n 0, 1) := by decide +kernel
theorem dX4_from_20 : decode cX4_from 20 = .ok (.getfield 9, 3) := by decide +kernel
theorem dX4_from_23 : decode cX4_from 23 = .ok (.if_icmp .ge 53, 3) := by decide +kernel
theorem dX4_from_26 : decode cX4_from 26 = .ok (.iload 5, 2) := by decide +kernel
theorem dX4_from_28 : decode cX4_from 28 = .ok (.sipush 144, 3) := by decide +kernel
theorem dX4_from_31 : decode cX4_from 31 = .ok (.if_icmp .ge 45, 3) := by decide +kernel
theorem dX4_from_34 : decode cX4_from 34 = .ok (.iconst 0, 1) := by decide +kernel
theorem dX4_from_35 : decode cX4_from 35 = .ok (.istore 6, 2) := by decide +kernel
theorem dX4_from_37 : decode cX4_from 37 = .ok (.iload 6, 2) := by decide +kernel
theorem dX4_from_39 : decode cX4_from 39 = .ok (.iconst 4, 1) := by decide +kernel
theorem dX4_from_40 : decode cX4_from 40 = .ok (.if_icmp .ge 30, 3) := by decide +kernel
theorem dX4_from_43 : decode cX4_from 43 = .ok (.aload_n 0, 1) := by decide +kernel
theorem dX4_from_44 : decode cX4_from 44 = .ok (.aload_n 1, 1) := by decide +kernel
theorem dX4_from_45 : decode cX4_from 45 = .ok (.aload_n 1, 1) := by decide +kernel
theorem dX4_from_46 : decode cX4_from 46 = .ok (.aload_n 0, 1) := by decide +kernel
theorem dX4_from_47 : decode cX4_from 47 = .ok (.getfield 15, 3) := by decide +kernel
theorem dX4_from_50 : decode cX4_from 50 = .ok (.iload 5, 2) := by decide +kernel
theorem dX4_from_52 : decode cX4_from 52 = .ok (.iaload, 1) := by decide +kernel
theorem dX4_from_53 : decode cX4_from 53 = .ok (.iload 6, 2) := by decide +kernel
theorem dX4_from_55 : decode cX4_from 55 = .ok (.invokevirtual 32, 3) := by decide +kernel
theorem dX4_from_58 : decode cX4_from 58 = .ok (.iload_n 3, 1) := by decide +kernel
theorem dX4_from_59 : decode cX4_from 59 = .ok (.iload 4, 2) := by decide +kernel
theorem dX4_from_61 : decode cX4_from 61 = .ok (.invokevirtual 28, 3) := by decide +kernel
theorem dX4_from_64 : decode cX4_from 64 = .ok (.iinc 6 1, 3) := by decide +kernel
theorem dX4_from_67 : decode cX4_from 67 = .ok (.goto (-30), 3) := by decide +kernel
theorem dX4_from_70 : decode cX4_from 70 = .ok (.iinc 5 1, 3) := by decide +kernel
theorem dX4_from_73 : decode cX4_from 73 = .ok (.goto (-56), 3) := by decide +kernel
theorem dX4_from_76 : decode cX4_from 76 = .ok (.return_, 1) := by decide +kernel
theorem dX4_reach_0 : decode cX4_reach 0 = .ok (.iload_n 2, 1) := by decide +kernel
theorem dX4_reach_1 : decode cX4_reach 1 = .ok (.iconst (-1), 1) := by decide +kernel
theorem dX4_reach_2 : decode cX4_reach 2 = .ok (.if_icmp .eq 22, 3) := by decide +kernel
theorem dX4_reach_5 : decode cX4_reach 5 = .ok (.aload_n 0, 1) := by decide +kernel
theorem dX4_reach_6 : decode cX4_reach 6 = .ok (.getfield 19, 3) := by decide +kernel
theorem dX4_reach_9 : decode cX4_reach 9 = .ok (.iload_n 2, 1) := by decide +kernel
theorem dX4_reach_10 : decode cX4_reach 10 = .ok (.iaload, 1) := by decide +kernel
theorem dX4_reach_11 : decode cX4_reach 11 = .ok (.ifCond .ne 13, 3) := by decide +kernel
theorem dX4_reach_14 : decode cX4_reach 14 = .ok (.aload_n 0, 1) := by decide +kernel
theorem dX4_reach_15 : decode cX4_reach 15 = .ok (.getfield 9, 3) := by decide +kernel
theorem dX4_reach_18 : decode cX4_reach 18 = .ok (.sipush 144, 3) := by decide +kernel
theorem dX4_reach_21 : decode cX4_reach 21 = .ok (.if_icmp .lt 4, 3) := by decide +kernel
theorem dX4_reach_24 : decode cX4_reach 24 = .ok (.return_, 1) := by decide +kernel
theorem dX4_reach_25 : decode cX4_reach 25 = .ok (.aload_n 1, 1) := by decide +kernel
theorem dX4_reach_26 : decode cX4_reach 26 = .ok (.getfield 38, 3) := by decide +kernel
theorem dX4_reach_29 : decode cX4_reach 29 = .ok (.iload_n 2, 1) := by decide +kernel
theorem dX4_reach_30 : decode cX4_reach 30 = .ok (.iaload, 1) := by decide +kernel
theorem dX4_reach_31 : decode cX4_reach 31 = .ok (.iload_n 3, 1) := by decide +kernel
theorem dX4_reach_32 : decode cX4_reach 32 = .ok (.iload 4, 2) := by decide +kernel
theorem dX4_reach_34 : decode cX4_reach 34 = .ok (.invokestatic 41, 3) := by decide +kernel
theorem dX4_reach_37 : decode cX4_reach 37 = .ok (.ifCond .eq 30, 3) := by decide +kernel
theorem dX4_reach_40 : decode cX4_reach 40 = .ok (.aload_n 0, 1) := by decide +kernel
theorem dX4_reach_41 : decode cX4_reach 41 = .ok (.getfield 19, 3) := by decide +kernel
theorem dX4_reach_44 : decode cX4_reach 44 = .ok (.iload_n 2, 1) := by decide +kernel
theorem dX4_reach_45 : decode cX4_reach 45 = .ok (.iconst 1, 1) := by decide +kernel
theorem dX4_reach_46 : decode cX4_reach 46 = .ok (.iastore, 1) := by decide +kernel
theorem dX4_reach_47 : decode cX4_reach 47 = .ok (.aload_n 0, 1) := by decide +kernel
theorem dX4_reach_48 : decode cX4_reach 48 = .ok (.getfield 15, 3) := by decide +kernel
theorem dX4_reach_51 : decode cX4_reach 51 = .ok (.aload_n 0, 1) := by decide +kernel
theorem dX4_reach_52 : decode cX4_reach 52 = .ok (.getfield 9, 3) := by decide +kernel
theorem dX4_reach_55 : decode cX4_reach 55 = .ok (.iload_n 2, 1) := by decide +kernel
theorem dX4_reach_56 : decode cX4_reach 56 = .ok (.iastore, 1) := by decide +kernel
theorem dX4_reach_57 : decode cX4_reach 57 = .ok (.aload_n 0, 1) := by decide +kernel
theorem dX4_reach_58 : decode cX4_reach 58 = .ok (.dup, 1) := by decide +kernel
theorem dX4_reach_59 : decode cX4_reach 59 = .ok (.getfield 9, 3) := by decide +kernel
theorem dX4_reach_62 : decode cX4_reach 62 = .ok (.iconst 1, 1) := by decide +kernel
theorem dX4_reach_63 : decode cX4_reach 63 = .ok (.iadd, 1) := by decide +kernel
theorem dX4_reach_64 : decode cX4_reach 64 = .ok (.putfield 9, 3) := by decide +kernel
theorem dX4_reach_67 : decode cX4_reach 67 = .ok (.return_, 1) := by decide +kernel
theorem dX4_markAll_0 : decode cX4_markAll 0 = .ok (.iconst 0, 1) := by decide +kernel
theorem dX4_markAll_1 : decode cX4_markAll 1 = .ok (.istore_n 3, 1) := by decide +kernel
theorem dX4_markAll_2 : decode cX4_markAll 2 = .ok (.iload_n 3, 1) := by decide +kernel
theorem dX4_markAll_3 : decode cX4_markAll 3 = .ok (.aload_n 0, 1) := by decide +kernel
theorem dX4_markAll_4 : decode cX4_markAll 4 = .ok (.getfield 9, 3) := by decide +kernel
theorem dX4_markAll_7 : decode cX4_markAll 7 = .ok (.if_icmp .ge 21, 3) := by decide +kernel
theorem dX4_markAll_10 : decode cX4_markAll 10 = .ok (.aload_n 1, 1) := by decide +kernel
theorem dX4_markAll_11 : decode cX4_markAll 11 = .ok (.getfield 45, 3) := by decide +kernel
theorem dX4_markAll_14 : decode cX4_markAll 14 = .ok (.aload_n 0, 1) := by decide +kernel
theorem dX4_markAll_15 : decode cX4_markAll 15 = .ok (.getfield 15, 3) := by decide +kernel
theorem dX4_markAll_18 : decode cX4_markAll 18 = .ok (.iload_n 3, 1) := by decide +kernel
theorem dX4_markAll_19 : decode cX4_markAll 19 = .ok (.iaload, 1) := by decide +kernel
theorem dX4_markAll_20 : decode cX4_markAll 20 = .ok (.iload_n 2, 1) := by decide +kernel
theorem dX4_markAll_21 : decode cX4_markAll 21 = .ok (.iastore, 1) := by decide +kernel
theorem dX4_markAll_22 : decode cX4_markAll 22 = .ok (.iinc 3 1, 3) := by decide +kernel
theorem dX4_markAll_25 : decode cX4_markAll 25 = .ok (.goto (-23), 3) := by decide +kernel
theorem dX4_markAll_28 : decode cX4_markAll 28 = .ok (.return_, 1) := by decide +kernel
theorem dX4_waterBelow_0 : decode cX4_waterBelow 0 = .ok (.iconst 0, 1) := by decide +kernel
theorem dX4_waterBelow_1 : decode cX4_waterBelow 1 = .ok (.istore_n 3, 1) := by decide +kernel
theorem dX4_waterBelow_2 : decode cX4_waterBelow 2 = .ok (.iconst 0, 1) := by decide +kernel
theorem dX4_waterBelow_3 : decode cX4_waterBelow 3 = .ok (.istore 4, 2) := by decide +kernel
theorem dX4_waterBelow_5 : decode cX4_waterBelow 5 = .ok (.iload 4, 2) := by decide +kernel
theorem dX4_waterBelow_7 : decode cX4_waterBelow 7 = .ok (.aload_n 0, 1) := by decide +kernel
theorem dX4_waterBelow_8 : decode cX4_waterBelow 8 = .ok (.getfield 9, 3) := by decide +kernel
theorem dX4_waterBelow_11 : decode cX4_waterBelow 11 = .ok (.if_icmp .ge 26, 3) := by decide +kernel
theorem dX4_waterBelow_14 : decode cX4_waterBelow 14 = .ok (.iload_n 3, 1) := by decide +kernel
theorem dX4_waterBelow_15 : decode cX4_waterBelow 15 = .ok (.iload_n 2, 1) := by decide +kernel
theorem dX4_waterBelow_16 : decode cX4_waterBelow 16 = .ok (.aload_n 1, 1) := by decide +kernel
theorem dX4_waterBelow_17 : decode cX4_waterBelow 17 = .ok (.getfield 38, 3) := by decide +kernel
theorem dX4_waterBelow_20 : decode cX4_waterBelow 20 = .ok (.aload_n 0, 1) := by decide +kernel
theorem dX4_waterBelow_21 : decode cX4_waterBelow 21 = .ok (.getfield 15, 3) := by decide +kernel
theorem dX4_waterBelow_24 : decode cX4_waterBelow 24 = .ok (.iload 4, 2) := by decide +kernel
theorem dX4_waterBelow_26 : decode cX4_waterBelow 26 = .ok (.iaload, 1) := by decide +kernel
theorem dX4_waterBelow_27 : decode cX4_waterBelow 27 = .ok (.iaload, 1) := by decide +kernel
theorem dX4_waterBelow_28 : decode cX4_waterBelow 28 = .ok (.isub, 1) := by decide +kernel
theorem dX4_waterBelow_29 : decode cX4_waterBelow 29 = .ok (.iadd, 1) := by decide +kernel
theorem dX4_waterBelow_30 : decode cX4_waterBelow 30 = .ok (.istore_n 3, 1) := by decide +kernel
theorem dX4_waterBelow_31 : decode cX4_waterBelow 31 = .ok (.iinc 4 1, 3) := by decide +kernel
theorem dX4_waterBelow_34 : decode cX4_waterBelow 34 = .ok (.goto (-29), 3) := by decide +kernel
theorem dX4_waterBelow_37 : decode cX4_waterBelow 37 = .ok (.iload_n 3, 1) := by decide +kernel
theorem dX4_waterBelow_38 : decode cX4_waterBelow 38 = .ok (.ireturn, 1) := by decide +kernel
theorem dX4_lowestAround_0 : decode cX4_lowestAround 0 = .ok (.bipush 100, 2) := by decide +kernel
theorem dX4_lowestAround_2 : decode cX4_lowestAround 2 = .ok (.istore 4, 2) := by decide +kernel
theorem dX4_lowestAround_4 : decode cX4_lowestAround 4 = .ok (.iconst 0, 1) := by decide +kernel
theorem dX4_lowestAround_5 : decode cX4_lowestAround 5 = .ok (.istore 5, 2) := by decide +kernel
theorem dX4_lowestAround_7 : decode cX4_lowestAround 7 = .ok (.iload 5, 2) := by decide +kernel
theorem dX4_lowestAround_9 : decode cX4_lowestAround 9 = .ok (.aload_n 0, 1) := by decide +kernel
theorem dX4_lowestAround_10 : decode cX4_lowestAround 10 = .ok (.getfield 9, 3) := by decide +kernel
theorem dX4_lowestAround_13 : decode cX4_lowestAround 13 = .ok (.if_icmp .ge 74, 3) := by decide +kernel
theorem dX4_lowestAround_16 : decode cX4_lowestAround 16 = .ok (.iconst 0, 1) := by decide +kernel
theorem dX4_lowestAround_17 : decode cX4_lowestAround 17 = .ok (.istore 6, 2) := by decide +kernel
theorem dX4_lowestAround_19 : decode cX4_lowestAround 19 = .ok (.iload 6, 2) := by decide +kernel
theorem dX4_lowestAround_21 : decode cX4_lowestAround 21 = .ok (.iconst 4, 1) := by decide +kernel
theorem dX4_lowestAround_22 : decode cX4_lowestAround 22 = .ok (.if_icmp .ge 59, 3) := by decide +kernel
theorem dX4_lowestAround_25 : decode cX4_lowestAround 25 = .ok (.aload_n 1, 1) := by decide +kernel
theorem dX4_lowestAround_26 : decode cX4_lowestAround 26 = .ok (.aload_n 0, 1) := by decide +kernel
theorem dX4_lowestAround_27 : decode cX4_lowestAround 27 = .ok (.getfield 15, 3) := by decide +kernel
theorem dX4_lowestAround_30 : decode cX4_lowestAround 30 = .ok (.iload 5, 2) := by decide +kernel
theorem dX4_lowestAround_32 : decode cX4_lowestAround 32 = .ok (.iaload, 1) := by decide +kernel
theorem dX4_lowestAround_33 : decode cX4_lowestAround 33 = .ok (.iload 6, 2) := by decide +kernel
theorem dX4_lowestAround_35 : decode cX4_lowestAround 35 = .ok (.invokevirtual 32, 3) := by decide +kernel
theorem dX4_lowestAround_38 : decode cX4_lowestAround 38 = .ok (.istore 7, 2) := by decide +kernel
theorem dX4_lowestAround_40 : decode cX4_lowestAround 40 = .ok (.iload 7, 2) := by decide +kernel
theorem dX4_lowestAround_42 : decode cX4_lowestAround 42 = .ok (.iconst (-1), 1) := by decide +kernel
theorem dX4_lowestAround_43 : decode cX4_lowestAround 43 = .ok (.if_icmp .eq 32, 3) := by decide +kernel
theorem dX4_lowestAround_46 : decode cX4_lowestAround 46 = .ok (.aload_n 1, 1) := by decide +kernel
theorem dX4_lowestAround_47 : decode cX4_lowestAround 47 = .ok (.getfield 38, 3) := by decide +kernel
theorem dX4_lowestAround_50 : decode cX4_lowestAround 50 = .ok (.iload 7, 2) := by decide +kernel
theorem dX4_lowestAround_52 : decode cX4_lowestAround 52 = .ok (.iaload, 1) := by decide +kernel
theorem dX4_lowestAround_53 : decode cX4_lowestAround 53 = .ok (.iload_n 2, 1) := by decide +kernel
theorem dX4_lowestAround_54 : decode cX4_lowestAround 54 = .ok (.iload_n 3, 1) := by decide +kernel
theorem dX4_lowestAround_55 : decode cX4_lowestAround 55 = .ok (.invokestatic 41, 3) := by decide +kernel
theorem dX4_lowestAround_58 : decode cX4_lowestAround 58 = .ok (.ifCond .ne 17, 3) := by decide +kernel
theorem dX4_lowestAround_61 : decode cX4_lowestAround 61 = .ok (.iload 4, 2) := by decide +kernel
theorem dX4_lowestAround_63 : decode cX4_lowestAround 63 = .ok (.aload_n 1, 1) := by decide +kernel
theorem dX4_lowestAround_64 : decode cX4_lowestAround 64 = .ok (.getfield 38, 3) := by decide +kernel
theorem dX4_lowestAround_67 : decode cX4_lowestAround 67 = .ok (.iload 7, 2) := by decide +kernel
theorem dX4_lowestAround_69 : decode cX4_lowestAround 69 = .ok (.iaload, 1) := by decide +kernel
theorem dX4_lowestAround_70 : decode cX4_lowestAround 70 = .ok (.invokestatic 48, 3) := by decide +kernel
theorem dX4_lowestAround_73 : decode cX4_lowestAround 73 = .ok (.istore 4, 2) := by decide +kernel
theorem dX4_lowestAround_75 : decode cX4_lowestAround 75 = .ok (.iinc 6 1, 3) := by decide +kernel
theorem dX4_lowestAround_78 : decode cX4_lowestAround 78 = .ok (.goto (-59), 3) := by decide +kernel
theorem dX4_lowestAround_81 : decode cX4_lowestAround 81 = .ok (.iinc 5 1, 3) := by decide +kernel
theorem dX4_lowestAround_84 : decode cX4_lowestAround 84 = .ok (.goto (-77), 3) := by decide +kernel
theorem dX4_lowestAround_87 : decode cX4_lowestAround 87 = .ok (.iload 4, 2) := by decide +kernel
theorem dX4_lowestAround_89 : decode cX4_lowestAround 89 = .ok (.ireturn, 1) := by decide +kernel
theorem dX5_init_0 : decode cX5_init 0 = .ok (.aload_n 0, 1) := by decide +kernel
theorem dX5_init_1 : decode cX5_init 1 = .ok (.invokespecial 3, 3) := by decide +kernel
theorem dX5_init_4 : decode cX5_init 4 = .ok (.aload_n 0, 1) := by decide +kernel
theorem dX5_init_5 : decode cX5_init 5 = .ok (.iconst 0, 1) := by decide +kernel
theorem dX5_init_6 : decode cX5_init 6 = .ok (.putfield 9, 3) := by decide +kernel
theorem dX5_init_9 : decode cX5_init 9 = .ok (.aload_n 0, 1) := by decide +kernel
theorem dX5_init_10 : decode cX5_init 10 = .ok (.iconst 0, 1) := by decide +kernel
theorem dX5_init_11 : decode cX5_init 11 = .ok (.putfield 15, 3) := by decide +kernel
theorem dX5_init_14 : decode cX5_init 14 = .ok (.aload_n 0, 1) := by decide +kernel
theorem dX5_init_15 : decode cX5_init 15 = .ok (.iconst 0, 1) := by decide +kernel
theorem dX5_init_16 : decode cX5_init 16 = .ok (.putfield 18, 3) := by decide +kernel
theorem dX5_init_19 : decode cX5_init 19 = .ok (.aload_n 0, 1) := by decide +kernel
theorem dX5_init_20 : decode cX5_init 20 = .ok (.sipush 144, 3) := by decide +kernel
theorem dX5_init_23 : decode cX5_init 23 = .ok (.newarray .int, 2) := by decide +kernel
theorem dX5_init_25 : decode cX5_init 25 = .ok (.putfield 21, 3) := by decide +kernel
theorem dX5_init_28 : decode cX5_init 28 = .ok (.aload_n 0, 1) := by decide +kernel
theorem dX5_init_29 : decode cX5_init 29 = .ok (.sipush 144, 3) := by decide +kernel
theorem dX5_init_32 : decode cX5_init 32 = .ok (.newarray .int, 2) := by decide +kernel
theorem dX5_init_34 : decode cX5_init 34 = .ok (.putfield 25, 3) := by decide +kernel
theorem dX5_init_37 : decode cX5_init 37 = .ok (.aload_n 0, 1) := by decide +kernel
theorem dX5_init_38 : decode cX5_init 38 = .ok (.sipush 576, 3) := by decide +kernel
theorem dX5_init_41 : decode cX5_init 41 = .ok (.newarray .int, 2) := by decide +kernel
theorem dX5_init_43 : decode cX5_init 43 = .ok (.putfield 28, 3) := by decide +kernel
theorem dX5_init_46 : decode cX5_init 46 = .ok (.return_, 1) := by decide +kernel
theorem dX5_shape_0 : decode cX5_shape 0 = .ok (.aload_n 0, 1) := by decide +kernel
theorem dX5_shape_1 : decode cX5_shape 1 = .ok (.iload_n 1, 1) := by decide +kernel
theorem dX5_shape_2 : decode cX5_shape 2 = .ok (.putfield 9, 3) := by decide +kernel
theorem dX5_shape_5 : decode cX5_shape 5 = .ok (.aload_n 0, 1) := by decide +kernel
theorem dX5_shape_6 : decode cX5_shape 6 = .ok (.iload_n 2, 1) := by decide +kernel
theorem dX5_shape_7 : decode cX5_shape 7 = .ok (.putfield 15, 3) := by decide +kernel
theorem dX5_shape_10 : decode cX5_shape 10 = .ok (.aload_n 0, 1) := by decide +kernel
theorem dX5_shape_11 : decode cX5_shape 11 = .ok (.iload_n 1, 1) := by decide +kernel
theorem dX5_shape_12 : decode cX5_shape 12 = .ok (.iload_n 2, 1) := by decide +kernel
theorem dX5_shape_13 : decode cX5_shape 13 = .ok (.imul, 1) := by decide +kernel
theorem dX5_shape_14 : decode cX5_shape 14 = .ok (.putfield 18, 3) := by decide +kernel
theorem dX5_shape_17 : decode cX5_shape 17 = .ok (.iconst 0, 1) := by decide +kernel
theorem dX5_shape_18 : decode cX5_shape 18 = .ok (.istore_n 3, 1) := by decide +kernel
theorem dX5_shape_19 : decode cX5_shape 19 = .ok (.iload_n 3, 1) := by decide +kernel
theorem dX5_shape_20 : decode cX5_shape 20 = .ok (.aload_n 0, 1) := by decide +kernel
theorem dX5_shape_21 : decode cX5_shape 21 = .ok (.getfield 15, 3) := by decide +kernel
theorem dX5_shape_24 : decode cX5_shape 24 = .ok (.if_icmp .ge 110, 3) := by decide +kernel
theorem dX5_shape_27 : decode cX5_shape 27 = .ok (.iconst 0, 1) := by decide +kernel
theorem dX5_shape_28 : decode cX5_shape 28 = .ok (.istore 4, 2) := by decide +kernel
theorem dX5_shape_30 : decode cX5_shape 30 = .ok (.iload 4, 2) := by decide +kernel
theorem dX5_shape_32 : decode cX5_shape 32 = .ok (.aload_n 0, 1) := by decide +kernel
theorem dX5_shape_33 : decode cX5_shape 33 = .ok (.getfield 9, 3) := by decide +kernel
theorem dX5_shape_36 : decode cX5_shape 36 = .ok (.if_icmp .ge 92, 3) := by decide +kernel
theorem dX5_shape_39 : decode cX5_shape 39 = .ok (.iload_n 3, 1) := by decide +kernel
theorem dX5_shape_40 : decode cX5_shape 40 = .ok (.aload_n 0, 1) := by decide +kernel
theorem dX5_shape_41 : decode cX5_shape 41 = .ok (.getfield 9, 3) := by decide +kernel
theorem dX5_shape_44 : decode cX5_shape 44 = .ok (.imul, 1) := by decide +kernel
theorem dX5_shape_45 : decode cX5_shape 45 = .ok (.iload 4, 2) := by decide +kernel
theorem dX5_shape_47 : decode cX5_shape 47 = .ok (.iadd, 1) := by decide +kernel
theorem dX5_shape_48 : decode cX5_shape 48 = .ok (.iconst 4, 1) := by decide +kernel
theorem dX5_shape_49 : decode cX5_shape 49 = .ok (.imul, 1) := by decide +kernel
theorem dX5_shape_50 : decode cX5_shape 50 = .ok (.istore 5, 2) := by decide +kernel
theorem dX5_shape_52 : decode cX5_shape 52 = .ok (.aload_n 0, 1) := by decide +kernel
theorem dX5_shape_53 : decode cX5_shape 53 = .ok (.getfield 28, 3) := by decide +kernel
theorem dX5_shape_56 : decode cX5_shape 56 = .ok (.iload 5, 2) := by decide +kernel
theorem dX5_shape_58 : decode cX5_shape 58 = .ok (.aload_n 0, 1) := by decide +kernel
theorem dX5_shape_59 : decode cX5_shape 59 = .ok (.iload 4, 2) := by decide +kernel
theorem dX5_shape_61 : decode cX5_shape 61 = .ok (.iconst 1, 1) := by decide +kernel
theorem dX5_shape_62 : decode cX5_shape 62 = .ok (.iadd, 1) := by decide +kernel
theorem dX5_shape_63 : decode cX5_shape 63 = .ok (.iload_n 3, 1) := by decide +kernel
theorem dX5_shape_64 : decode cX5_shape 64 = .ok (.invokevirtual 31, 3) := by decide +kernel
theorem dX5_shape_67 : decode cX5_shape 67 = .ok (.iastore, 1) := by decide +kernel
theorem dX5_shape_68 : decode cX5_shape 68 = .ok (.aload_n 0, 1) := by decide +kernel
theorem dX5_shape_69 : decode cX5_shape 69 = .ok (.getfield 28, 3) := by decide +kernel
theorem dX5_shape_72 : decode cX5_shape 72 = .ok (.iload 5, 2) := by decide +kernel
theorem dX5_shape_74 : decode cX5_shape 74 = .ok (.iconst 1, 1) := by decide +kernel
theorem dX5_shape_75 : decode cX5_shape 75 = .ok (.iadd, 1) := by decide +kernel
theorem dX5_shape_76 : decode cX5_shape 76 = .ok (.aload_n 0, 1) := by decide +kernel
theorem dX5_shape_77 : decode cX5_shape 77 = .ok (.iload 4, 2) := by decide +kernel
theorem dX5_shape_79 : decode cX5_shape 79 = .ok (.iload_n 3, 1) := by decide +kernel
theorem dX5_shape_80 : decode cX5_shape 80 = .ok (.iconst 1, 1) := by decide +kernel
theorem dX5_shape_81 : decode cX5_shape 81 = .ok (.iadd, 1) := by decide +kernel
theorem dX5_shape_82 : decode cX5_shape 82 = .ok (.invokevirtual 31, 3) := by decide +kernel
theorem dX5_shape_85 : decode cX5_shape 85 = .ok (.iastore, 1) := by decide +kernel
theorem dX5_shape_86 : decode cX5_shape 86 = .ok (.aload_n 0, 1) := by decide +kernel
theorem dX5_shape_87 : decode cX5_shape 87 = .ok (.getfield 28, 3) := by decide +kernel
theorem dX5_shape_90 : decode cX5_shape 90 = .ok (.iload 5, 2) := by decide +kernel
theorem dX5_shape_92 : decode cX5_shape 92 = .ok (.iconst 2, 1) := by decide +kernel
theorem dX5_shape_93 : decode cX5_shape 93 = .ok (.iadd, 1) := by decide +kernel
theorem dX5_shape_94 : decode cX5_shape 94 = .ok (.aload_n 0, 1) := by decide +kernel
theorem dX5_shape_95 : decode cX5_shape 95 = .ok (.iload 4, 2) := by decide +kernel
theorem dX5_shape_97 : decode cX5_shape 97 = .ok (.iconst 1, 1) := by decide +kernel
theorem dX5_shape_98 : decode cX5_shape 98 = .ok (.isub, 1) := by decide +kernel
theorem dX5_shape_99 : decode cX5_shape 99 = .ok (.iload_n 3, 1) := by decide +kernel
theorem dX5_shape_100 : decode cX5_shape 100 = .ok (.invokevirtual 31, 3) := by decide +kernel
theorem dX5_shape_103 : decode cX5_shape 103 = .ok (.iastore, 1) := by decide +kernel
theorem dX5_shape_104 : decode cX5_shape 104 = .ok (.aload_n 0, 1) := by decide +kernel
theorem dX5_shape_105 : decode cX5_shape 105 = .ok (.getfield 28, 3) := by decide +kernel
theorem dX5_shape_108 : decode cX5_shape 108 = .ok (.iload 5, 2) := by decide +kernel
theorem dX5_shape_110 : decode cX5_shape 110 = .ok (.iconst 3, 1) := by decide +kernel
theorem dX5_shape_111 : decode cX5_shape 111 = .ok (.iadd, 1) := by decide +kernel
theorem dX5_shape_112 : decode cX5_shape 112 = .ok (.aload_n 0, 1) := by decide +kernel
theorem dX5_shape_113 : decode cX5_shape 113 = .ok (.iload 4, 2) := by decide +kernel
theorem dX5_shape_115 : decode cX5_shape 115 = .ok (.iload_n 3, 1) := by decide +kernel
theorem dX5_shape_116 : decode cX5_shape 116 = .ok (.iconst 1, 1) := by decide +kernel
theorem dX5_shape_117 : decode cX5_shape 117 = .ok (.isub, 1) := by decide +kernel
theorem dX5_shape_118 : decode cX5_shape 118 = .ok (.invokevirtual 31, 3) := by decide +kernel
theorem dX5_shape_121 : decode cX5_shape 121 = .ok (.iastore, 1) := by decide +kernel
theorem dX5_shape_122 : decode cX5_shape 122 = .ok (.iinc 4 1, 3) := by decide +kernel
theorem dX5_shape_125 : decode cX5_shape 125 = .ok (.goto (-95), 3) := by decide +kernel
theorem dX5_shape_128 : decode cX5_shape 128 = .ok (.iinc 3 1, 3) := by decide +kernel
theorem dX5_shape_131 : decode cX5_shape 131 = .ok (.goto (-112), 3) := by decide +kernel
theorem dX5_shape_134 : decode cX5_shape 134 = .ok (.return_, 1) := by decide +kernel
theorem dX5_clear_0 : decode cX5_clear 0 = .ok (.aload_n 0, 1) := by decide +kernel
theorem dX5_clear_1 : decode cX5_clear 1 = .ok (.getfield 21, 3) := by decide +kernel
theorem dX5_clear_4 : decode cX5_clear 4 = .ok (.iconst 0, 1) := by decide +kernel
theorem dX5_clear_5 : decode cX5_clear 5 = .ok (.invokestatic 35, 3) := by decide +kernel
theorem dX5_clear_8 : decode cX5_clear 8 = .ok (.aload_n 0, 1) := by decide +kernel
theorem dX5_clear_9 : decode cX5_clear 9 = .ok (.getfield 25, 3) := by decide +kernel
theorem dX5_clear_12 : decode cX5_clear 12 = .ok (.iconst 0, 1) := by decide +kernel
theorem dX5_clear_13 : decode cX5_clear 13 = .ok (.invokestatic 35, 3) := by decide +kernel
theorem dX5_clear_16 : decode cX5_clear 16 = .ok (.return_, 1) := by decide +kernel
theorem dX5_dotAt_0 : decode cX5_dotAt 0 = .ok (.iload_n 1, 1) := by decide +kernel
theorem dX5_dotAt_1 : decode cX5_dotAt 1 = .ok (.iconst 0, 1) := by decide +kernel
theorem dX5_dotAt_2 : decode cX5_dotAt 2 = .ok (.aload_n 0, 1) := by decide +kernel
theorem dX5_dotAt_3 : decode cX5_dotAt 3 = .ok (.getfield 9, 3) := by decide +kernel
theorem dX5_dotAt_6 : decode cX5_dotAt 6 = .ok (.iconst 1, 1) := by decide +kernel
theorem dX5_dotAt_7 : decode cX5_dotAt 7 = .ok (.isub, 1) := by decide +kernel
theorem dX5_dotAt_8 : decode cX5_dotAt 8 = .ok (.invokestatic 41, 3) := by decide +kernel
theorem dX5_dotAt_11 : decode cX5_dotAt 11 = .ok (.ifCond .eq 28, 3) := by decide +kernel
theorem dX5_dotAt_14 : decode cX5_dotAt 14 = .ok (.iload_n 2, 1) := by decide +kernel
theorem dX5_dotAt_15 : decode cX5_dotAt 15 = .ok (.iconst 0, 1) := by decide +kernel
theorem dX5_dotAt_16 : decode cX5_dotAt 16 = .ok (.aload_n 0, 1) := by decide +kernel
theorem dX5_dotAt_17 : decode cX5_dotAt 17 = .ok (.getfield 15, 3) := by decide +kernel
theorem dX5_dotAt_20 : decode cX5_dotAt 20 = .ok (.iconst 1, 1) := by decide +kernel
theorem dX5_dotAt_21 : decode cX5_dotAt 21 = .ok (.isub, 1) := by decide +kernel
theorem dX5_dotAt_22 : decode cX5_dotAt 22 = .ok (.invokestatic 41, 3) := by decide +kernel
theorem dX5_dotAt_25 : decode cX5_dotAt 25 = .ok (.ifCond .eq 14, 3) := by decide +kernel
theorem dX5_dotAt_28 : decode cX5_dotAt 28 = .ok (.iload_n 2, 1) := by decide +kernel
theorem dX5_dotAt_29 : decode cX5_dotAt 29 = .ok (.aload_n 0, 1) := by decide +kernel
theorem dX5_dotAt_30 : decode cX5_dotAt 30 = .ok (.getfield 9, 3) := by decide +kernel
theorem dX5_dotAt_33 : decode cX5_dotAt 33 = .ok (.imul, 1) := by decide +kernel
theorem dX5_dotAt_34 : decode cX5_dotAt 34 = .ok (.iload_n 1, 1) := by decide +kernel
theorem dX5_dotAt_35 : decode cX5_dotAt 35 = .ok (.iadd, 1) := by decide +kernel
theorem dX5_dotAt_36 : decode cX5_dotAt 36 = .ok (.goto 4, 3) := by decide +kernel
theorem dX5_dotAt_39 : decode cX5_dotAt 39 = .ok (.iconst (-1), 1) := by decide +kernel
theorem dX5_dotAt_40 : decode cX5_dotAt 40 = .ok (.ireturn, 1) := by decide +kernel
theorem dX5_neighbour_0 : decode cX5_neighbour 0 = .ok (.aload_n 0, 1) := by decide +kernel
theorem dX5_neighbour_1 : decode cX5_neighbour 1 = .ok (.getfield 28, 3) := by decide +kernel
theorem dX5_neighbour_4 : decode cX5_neighbour 4 = .ok (.iload_n 1, 1) := by decide +kernel
theorem dX5_neighbour_5 : decode cX5_neighbour 5 = .ok (.iconst 4, 1) := by decide +kernel
theorem dX5_neighbour_6 : decode cX5_neighbour 6 = .ok (.imul, 1) := by decide +kernel
theorem dX5_neighbour_7 : decode cX5_neighbour 7 = .ok (.iload_n 2, 1) := by decide +kernel
theorem dX5_neighbour_8 : decode cX5_neighbour 8 = .ok (.iadd, 1) := by decide +kernel
theorem dX5_neighbour_9 : decode cX5_neighbour 9 = .ok (.iaload, 1) := by decide +kernel
theorem dX5_neighbour_10 : decode cX5_neighbour 10 = .ok (.ireturn, 1) := by decide +kernel
theorem dX5_ripple_0 : decode cX5_ripple 0 = .ok (.iconst 0, 1) := by decide +kernel
theorem dX5_ripple_1 : decode cX5_ripple 1 = .ok (.istore 5, 2) := by decide +kernel
theorem dX5_ripple_3 : decode cX5_ripple 3 = .ok (.iload 5, 2) := by decide +kernel
theorem dX5_ripple_5 : decode cX5_ripple 5 = .ok (.aload_n 0, 1) := by decide +kernel
theorem dX5_ripple_6 : decode cX5_ripple 6 = .ok (.getfield 15, 3) := by decide +kernel
theorem dX5_ripple_9 : decode cX5_ripple 9 = .ok (.if_icmp .ge 62, 3) := by decide +kernel
theorem dX5_ripple_12 : decode cX5_ripple 12 = .ok (.iconst 0, 1) := by decide +kernel
theorem dX5_ripple_13 : decode cX5_ripple 13 = .ok (.istore 6, 2) := by decide +kernel
theorem dX5_ripple_15 : decode cX5_ripple 15 = .ok (.iload 6, 2) := by decide +kernel
theorem dX5_ripple_17 : decode cX5_ripple 17 = .ok (.aload_n 0, 1) := by decide +kernel
theorem dX5_ripple_18 : decode cX5_ripple 18 = .ok (.getfield 9, 3) := by decide +kernel
theorem dX5_ripple_21 : decode cX5_ripple 21 = .ok (.if_icmp .ge 44, 3) := by decide +kernel
theorem dX5_ripple_24 : decode cX5_ripple 24 = .ok (.aload_n 0, 1) := by decide +kernel
theorem dX5_ripple_25 : decode cX5_ripple 25 = .ok (.getfield 21, 3) := by decide +kernel
theorem dX5_ripple_28 : decode cX5_ripple 28 = .ok (.iload 5, 2) := by decide +kernel
theorem dX5_ripple_30 : decode cX5_ripple 30 = .ok (.aload_n 0, 1) := by decide +kernel
theorem dX5_ripple_31 : decode cX5_ripple 31 = .ok (.getfield 9, 3) := by decide +kernel
theorem dX5_ripple_34 : decode cX5_ripple 34 = .ok (.imul, 1) := by decide +kernel
theorem dX5_ripple_35 : decode cX5_ripple 35 = .ok (.iload 6, 2) := by decide +kernel
theorem dX5_ripple_37 : decode cX5_ripple 37 = .ok (.iadd, 1) := by decide +kernel
theorem dX5_ripple_38 : decode cX5_ripple 38 = .ok (.iload_n 1, 1) := by decide +kernel
theorem dX5_ripple_39 : decode cX5_ripple 39 = .ok (.iload 6, 2) := by decide +kernel
theorem dX5_ripple_41 : decode cX5_ripple 41 = .ok (.imul, 1) := by decide +kernel
theorem dX5_ripple_42 : decode cX5_ripple 42 = .ok (.iload_n 2, 1) := by decide +kernel
theorem dX5_ripple_43 : decode cX5_ripple 43 = .ok (.iload 5, 2) := by decide +kernel
theorem dX5_ripple_45 : decode cX5_ripple 45 = .ok (.imul, 1) := by decide +kernel
theorem dX5_ripple_46 : decode cX5_ripple 46 = .ok (.iadd, 1) := by decide +kernel
theorem dX5_ripple_47 : decode cX5_ripple 47 = .ok (.iload_n 3, 1) := by decide +kernel
theorem dX5_ripple_48 : decode cX5_ripple 48 = .ok (.iload 6, 2) := by decide +kernel
theorem dX5_ripple_50 : decode cX5_ripple 50 = .ok (.imul, 1) := by decide +kernel
theorem dX5_ripple_51 : decode cX5_ripple 51 = .ok (.iload 5, 2) := by decide +kernel
theorem dX5_ripple_53 : decode cX5_ripple 53 = .ok (.imul, 1) := by decide +kernel
theorem dX5_ripple_54 : decode cX5_ripple 54 = .ok (.iadd, 1) := by decide +kernel
theorem dX5_ripple_55 : decode cX5_ripple 55 = .ok (.iload 4, 2) := by decide +kernel
theorem dX5_ripple_57 : decode cX5_ripple 57 = .ok (.irem, 1) := by decide +kernel
theorem dX5_ripple_58 : decode cX5_ripple 58 = .ok (.iastore, 1) := by decide +kernel
theorem dX5_ripple_59 : decode cX5_ripple 59 = .ok (.iinc 6 1, 3) := by decide +kernel
theorem dX5_ripple_62 : decode cX5_ripple 62 = .ok (.goto (-47), 3) := by decide +kernel
theorem dX5_ripple_65 : decode cX5_ripple 65 = .ok (.iinc 5 1, 3) := by decide +kernel
theorem dX5_ripple_68 : decode cX5_ripple 68 = .ok (.goto (-65), 3) := by decide +kernel
theorem dX5_ripple_71 : decode cX5_ripple 71 = .ok (.return_, 1) := by decide +kernel
theorem dX5_raise_0 : decode cX5_raise 0 = .ok (.iconst 0, 1) := by decide +kernel
theorem dX5_raise_1 : decode cX5_raise 1 = .ok (.istore 5, 2) := by decide +kernel
theorem dX5_raise_3 : decode cX5_raise 3 = .ok (.iload 5, 2) := by decide +kernel
theorem dX5_raise_5 : decode cX5_raise 5 = .ok (.aload_n 0, 1) := by decide +kernel
theorem dX5_raise_6 : decode cX5_raise 6 = .ok (.getfield 15, 3) := by decide +kernel
theorem dX5_raise_9 : decode cX5_raise 9 = .ok (.if_icmp .ge 119, 3) := by decide +kernel
theorem dX5_raise_12 : decode cX5_raise 12 = .ok (.iconst 0, 1) := by decide +kernel
theorem dX5_raise_13 : decode cX5_raise 13 = .ok (.istore 6, 2) := by decide +kernel
theorem dX5_raise_15 : decode cX5_raise 15 = .ok (.iload 6, 2) := by decide +kernel
theorem dX5_raise_17 : decode cX5_raise 17 = .ok (.aload_n 0, 1) := by decide +kernel
theorem dX5_raise_18 : decode cX5_raise 18 = .ok (.getfield 9, 3) := by decide +kernel
theorem dX5_raise_21 : decode cX5_raise 21 = .ok (.if_icmp .ge 101, 3) := by decide +kernel
theorem dX5_raise_24 : decode cX5_raise 24 = .ok (.iload 6, 2) := by decide +kernel
theorem dX5_raise_26 : decode cX5_raise 26 = .ok (.iload_n 1, 1) := by decide +kernel
theorem dX5_raise_27 : decode cX5_raise 27 = .ok (.isub, 1) := by decide +kernel
theorem dX5_raise_28 : decode cX5_raise 28 = .ok (.invokestatic 45, 3) := by decide +kernel
theorem dX5_raise_31 : decode cX5_raise 31 = .ok (.iload 5, 2) := by decide +kernel
theorem dX5_raise_33 : decode cX5_raise 33 = .ok (.iload_n 2, 1) := by decide +kernel
theorem dX5_raise_34 : decode cX5_raise 34 = .ok (.isub, 1) := by decide +kernel
theorem dX5_raise_35 : decode cX5_raise 35 = .ok (.invokestatic 45, 3) := by decide +kernel
theorem dX5_raise_38 : decode cX5_raise 38 = .ok (.iadd, 1) := by decide +kernel
theorem dX5_raise_39 : decode cX5_raise 39 = .ok (.istore 7, 2) := by decide +kernel
theorem dX5_raise_41 : decode cX5_raise 41 = .ok (.iload_n 3, 1) := by decide +kernel
theorem dX5_raise_42 : decode cX5_raise 42 = .ok (.invokestatic 45, 3) := by decide +kernel
theorem dX5_raise_45 : decode cX5_raise 45 = .ok (.iload 4, 2) := by decide +kernel
theorem dX5_raise_47 : decode cX5_raise 47 = .ok (.iload 7, 2) := by decide +kernel
theorem dX5_raise_49 : decode cX5_raise 49 = .ok (.imul, 1) := by decide +kernel
theorem dX5_raise_50 : decode cX5_raise 50 = .ok (.isub, 1) := by decide +kernel
theorem dX5_raise_51 : decode cX5_raise 51 = .ok (.iconst 0, 1) := by decide +kernel
theorem dX5_raise_52 : decode cX5_raise 52 = .ok (.invokestatic 51, 3) := by decide +kernel
theorem dX5_raise_55 : decode cX5_raise 55 = .ok (.istore 8, 2) := by decide +kernel
theorem dX5_raise_57 : decode cX5_raise 57 = .ok (.iload 5, 2) := by decide +kernel
theorem dX5_raise_59 : decode cX5_raise 59 = .ok (.aload_n 0, 1) := by decide +kernel
theorem dX5_raise_60 : decode cX5_raise 60 = .ok (.getfield 9, 3) := by decide +kernel
theorem dX5_raise_63 : decode cX5_raise 63 = .ok (.imul, 1) := by decide +kernel
theorem dX5_raise_64 : decode cX5_raise 64 = .ok (.iload 6, 2) := by decide +kernel
theorem dX5_raise_66 : decode cX5_raise 66 = .ok (.iadd, 1) := by decide +kernel
theorem dX5_raise_67 : decode cX5_raise 67 = .ok (.istore 9, 2) := by decide +kernel
theorem dX5_raise_69 : decode cX5_raise 69 = .ok (.iload_n 3, 1) := by decide +kernel
theorem dX5_raise_70 : decode cX5_raise 70 = .ok (.ifCond .ge 16, 3) := by decide +kernel
theorem dX5_raise_73 : decode cX5_raise 73 = .ok (.aload_n 0, 1) := by decide +kernel
theorem dX5_raise_74 : decode cX5_raise 74 = .ok (.getfield 21, 3) := by decide +kernel
theorem dX5_raise_77 : decode cX5_raise 77 = .ok (.iload 9, 2) := by decide +kernel
theorem dX5_raise_79 : decode cX5_raise 79 = .ok (.iaload, 1) := by decide +kernel
theorem dX5_raise_80 : decode cX5_raise 80 = .ok (.iload 8, 2) := by decide +kernel
theorem dX5_raise_82 : decode cX5_raise 82 = .ok (.isub, 1) := by decide +kernel
theorem dX5_raise_83 : decode cX5_raise 83 = .ok (.goto 13, 3) := by decide +kernel
theorem dX5_raise_86 : decode cX5_raise 86 = .ok (.aload_n 0, 1) := by decide +kernel
theorem dX5_raise_87 : decode cX5_raise 87 = .ok (.getfield 21, 3) := by decide +kernel
theorem dX5_raise_90 : decode cX5_raise 90 = .ok (.iload 9, 2) := by decide +kernel
theorem dX5_raise_92 : decode cX5_raise 92 = .ok (.iaload, 1) := by decide +kernel
theorem dX5_raise_93 : decode cX5_raise 93 = .ok (.iload 8, 2) := by decide +kernel
theorem dX5_raise_95 : decode cX5_raise 95 = .ok (.iadd, 1) := by decide +kernel
theorem dX5_raise_96 : decode cX5_raise 96 = .ok (.istore 10, 2) := by decide +kernel
theorem dX5_raise_98 : decode cX5_raise 98 = .ok (.aload_n 0, 1) := by decide +kernel
theorem dX5_raise_99 : decode cX5_raise 99 = .ok (.getfield 21, 3) := by decide +kernel
theorem dX5_raise_102 : decode cX5_raise 102 = .ok (.iload 9, 2) := by decide +kernel
theorem dX5_raise_104 : decode cX5_raise 104 = .ok (.iload 10, 2) := by decide +kernel
theorem dX5_raise_106 : decode cX5_raise 106 = .ok (.iconst 0, 1) := by decide +kernel
theorem dX5_raise_107 : decode cX5_raise 107 = .ok (.invokestatic 51, 3) := by decide +kernel
theorem dX5_raise_110 : decode cX5_raise 110 = .ok (.bipush 99, 2) := by decide +kernel
theorem dX5_raise_112 : decode cX5_raise 112 = .ok (.invokestatic 54, 3) := by decide +kernel
theorem dX5_raise_115 : decode cX5_raise 115 = .ok (.iastore, 1) := by decide +kernel
theorem dX5_raise_116 : decode cX5_raise 116 = .ok (.iinc 6 1, 3) := by decide +kernel
theorem dX5_raise_119 : decode cX5_raise 119 = .ok (.goto (-104), 3) := by decide +kernel
theorem dX5_raise_122 : decode cX5_raise 122 = .ok (.iinc 5 1, 3) := by decide +kernel
theorem dX5_raise_125 : decode cX5_raise 125 = .ok (.goto (-122), 3) := by decide +kernel
theorem dX5_raise_128 : decode cX5_raise 128 = .ok (.return_, 1) := by decide +kernel
theorem dX5_countMarks_0 : decode cX5_countMarks 0 = .ok (.iconst 0, 1) := by decide +kernel
theorem dX5_countMarks_1 : decode cX5_countMarks 1 = .ok (.istore_n 1, 1) := by decide +kernel
theorem dX5_countMarks_2 : decode cX5_countMarks 2 = .ok (.iconst 0, 1) := by decide +kernel
theorem dX5_countMarks_3 : decode cX5_countMarks 3 = .ok (.istore_n 2, 1) := by decide +kernel
theorem dX5_countMarks_4 : decode cX5_countMarks 4 = .ok (.iload_n 2, 1) := by decide +kernel
theorem dX5_countMarks_5 : decode cX5_countMarks 5 = .ok (.aload_n 0, 1) := by decide +kernel
theorem dX5_countMarks_6 : decode cX5_countMarks 6 = .ok (.getfield 18, 3) := by decide +kernel
theorem dX5_countMarks_9 : decode cX5_countMarks 9 = .ok (.if_icmp .ge 21, 3) := by decide +kernel
theorem dX5_countMarks_12 : decode cX5_countMarks 12 = .ok (.aload_n 0, 1) := by decide +kernel
theorem dX5_countMarks_13 : decode cX5_countMarks 13 = .ok (.getfield 25, 3) := by decide +kernel
theorem dX5_countMarks_16 : decode cX5_countMarks 16 = .ok (.iload_n 2, 1) := by decide +kernel
theorem dX5_countMarks_17 : decode cX5_countMarks 17 = .ok (.iaload, 1) := by decide +kernel
theorem dX5_countMarks_18 : decode cX5_countMarks 18 = .ok (.ifCond .le 6, 3) := by decide +kernel
theorem dX5_countMarks_21 : decode cX5_countMarks 21 = .ok (.iinc 1 1, 3) := by decide +kernel
theorem dX5_countMarks_24 : decode cX5_countMarks 24 = .ok (.iinc 2 1, 3) := by decide +kernel
theorem dX5_countMarks_27 : decode cX5_countMarks 27 = .ok (.goto (-23), 3) := by decide +kernel
theorem dX5_countMarks_30 : decode cX5_countMarks 30 = .ok (.iload_n 1, 1) := by decide +kernel
theorem dX5_countMarks_31 : decode cX5_countMarks 31 = .ok (.ireturn, 1) := by decide +kernel
theorem dX5_countDams_0 : decode cX5_countDams 0 = .ok (.iconst 0, 1) := by decide +kernel
theorem dX5_countDams_1 : decode cX5_countDams 1 = .ok (.istore_n 2, 1) := by decide +kernel
theorem dX5_countDams_2 : decode cX5_countDams 2 = .ok (.iconst 0, 1) := by decide +kernel
theorem dX5_countDams_3 : decode cX5_countDams 3 = .ok (.istore_n 3, 1) := by decide +kernel
theorem dX5_countDams_4 : decode cX5_countDams 4 = .ok (.iload_n 3, 1) := by decide +kernel
theorem dX5_countDams_5 : decode cX5_countDams 5 = .ok (.aload_n 0, 1) := by decide +kernel
theorem dX5_countDams_6 : decode cX5_countDams 6 = .ok (.getfield 18, 3) := by decide +kernel
theorem dX5_countDams_9 : decode cX5_countDams 9 = .ok (.if_icmp .ge 18, 3) := by decide +kernel
theorem dX5_countDams_12 : decode cX5_countDams 12 = .ok (.aload_n 1, 1) := by decide +kernel
theorem dX5_countDams_13 : decode cX5_countDams 13 = .ok (.iload_n 3, 1) := by decide +kernel
theorem dX5_countDams_14 : decode cX5_countDams 14 = .ok (.iaload, 1) := by decide +kernel
theorem dX5_countDams_15 : decode cX5_countDams 15 = .ok (.ifCond .ne 6, 3) := by decide +kernel
theorem dX5_countDams_18 : decode cX5_countDams 18 = .ok (.iinc 2 1, 3) := by decide +kernel
theorem dX5_countDams_21 : decode cX5_countDams 21 = .ok (.iinc 3 1, 3) := by decide +kernel
theorem dX5_countDams_24 : decode cX5_countDams 24 = .ok (.goto (-20), 3) := by decide +kernel
theorem dX5_countDams_27 : decode cX5_countDams 27 = .ok (.iload_n 2, 1) := by decide +kernel
theorem dX5_countDams_28 : decode cX5_countDams 28 = .ok (.ireturn, 1) := by decide +kernel
theorem dX5_onlyBasinAround_0 : decode cX5_onlyBasinAround 0 = .ok (.bipush (-6), 2) := by decide +kernel
theorem dX5_onlyBasinAround_2 : decode cX5_onlyBasinAround 2 = .ok (.istore_n 3, 1) := by decide +kernel
theorem dX5_onlyBasinAround_3 : decode cX5_onlyBasinAround 3 = .ok (.iconst 0, 1) := by decide +kernel
theorem dX5_onlyBasinAround_4 : decode cX5_onlyBasinAround 4 = .ok (.istore 4, 2) := by decide +kernel
theorem dX5_onlyBasinAround_6 : decode cX5_onlyBasinAround 6 = .ok (.iload 4, 2) := by decide +kernel
theorem dX5_onlyBasinAround_8 : decode cX5_onlyBasinAround 8 = .ok (.iconst 4, 1) := by decide +kernel
theorem dX5_onlyBasinAround_9 : decode cX5_onlyBasinAround 9 = .ok (.if_icmp .ge 46, 3) := by decide +kernel
theorem dX5_onlyBasinAround_12 : decode cX5_onlyBasinAround 12 = .ok (.aload_n 0, 1) := by decide +kernel
theorem dX5_onlyBasinAround_13 : decode cX5_onlyBasinAround 13 = .ok (.iload_n 1, 1) := by decide +kernel
theorem dX5_onlyBasinAround_14 : decode cX5_onlyBasinAround 14 = .ok (.iload 4, 2) := by decide +kernel
theorem dX5_onlyBasinAround_16 : decode cX5_onlyBasinAround 16 = .ok (.aload_n 2, 1) := by decide +kernel
theorem dX5_onlyBasinAround_17 : decode cX5_onlyBasinAround 17 = .ok (.invokevirtual 57, 3) := by decide +kernel
theorem dX5_onlyBasinAround_20 : decode cX5_onlyBasinAround 20 = .ok (.istore 5, 2) := by decide +kernel
theorem dX5_onlyBasinAround_22 : decode cX5_onlyBasinAround 22 = .ok (.iload 5, 2) := by decide +kernel
theorem dX5_onlyBasinAround_24 : decode cX5_onlyBasinAround 24 = .ok (.bipush (-6), 2) := by decide +kernel
theorem dX5_onlyBasinAround_26 : decode cX5_onlyBasinAround 26 = .ok (.if_icmp .eq 23, 3) := by decide +kernel
theorem dX5_onlyBasinAround_29 : decode cX5_onlyBasinAround 29 = .ok (.iload 5, 2) := by decide +kernel
theorem dX5_onlyBasinAround_31 : decode cX5_onlyBasinAround 31 = .ok (.iload_n 3, 1) := by decide +kernel
theorem dX5_onlyBasinAround_32 : decode cX5_onlyBasinAround 32 = .ok (.if_icmp .ne 6, 3) := by decide +kernel
theorem dX5_onlyBasinAround_35 : decode cX5_onlyBasinAround 35 = .ok (.goto 14, 3) := by decide +kernel
theorem dX5_onlyBasinAround_38 : decode cX5_onlyBasinAround 38 = .ok (.iload_n 3, 1) := by decide +kernel
theorem dX5_onlyBasinAround_39 : decode cX5_onlyBasinAround 39 = .ok (.bipush (-6), 2) := by decide +kernel
theorem dX5_onlyBasinAround_41 : decode cX5_onlyBasinAround 41 = .ok (.if_icmp .eq 5, 3) := by decide +kernel
theorem dX5_onlyBasinAround_44 : decode cX5_onlyBasinAround 44 = .ok (.iconst 0, 1) := by decide +kernel
theorem dX5_onlyBasinAround_45 : decode cX5_onlyBasinAround 45 = .ok (.ireturn, 1) := by decide +kernel
theorem dX5_onlyBasinAround_46 : decode cX5_onlyBasinAround 46 = .ok (.iload 5, 2) := by decide +kernel
theorem dX5_onlyBasinAround_48 : decode cX5_onlyBasinAround 48 = .ok (.istore_n 3, 1) := by decide +kernel
theorem dX5_onlyBasinAround_49 : decode cX5_onlyBasinAround 49 = .ok (.iinc 4 1, 3) := by decide +kernel
theorem dX5_onlyBasinAround_52 : decode cX5_onlyBasinAround 52 = .ok (.goto (-46), 3) := by decide +kernel
theorem dX5_onlyBasinAround_55 : decode cX5_onlyBasinAround 55 = .ok (.iload_n 3, 1) := by decide +kernel
theorem dX5_onlyBasinAround_56 : decode cX5_onlyBasinAround 56 = .ok (.ireturn, 1) := by decide +kernel
theorem dX5_basinBeside_0 : decode cX5_basinBeside 0 = .ok (.aload_n 0, 1) := by decide +kernel
theorem dX5_basinBeside_1 : decode cX5_basinBeside 1 = .ok (.getfield 28, 3) := by decide +kernel
theorem dX5_basinBeside_4 : decode cX5_basinBeside 4 = .ok (.iload_n 1, 1) := by decide +kernel
theorem dX5_basinBeside_5 : decode cX5_basinBeside 5 = .ok (.iconst 4, 1) := by decide +kernel
theorem dX5_basinBeside_6 : decode cX5_basinBeside 6 = .ok (.imul, 1) := by decide +kernel
theorem dX5_basinBeside_7 : decode cX5_basinBeside 7 = .ok (.iload_n 2, 1) := by decide +kernel
theorem dX5_basinBeside_8 : decode cX5_basinBeside 8 = .ok (.iadd, 1) := by decide +kernel
theorem dX5_basinBeside_9 : decode cX5_basinBeside 9 = .ok (.iaload, 1) := by decide +kernel
theorem dX5_basinBeside_10 : decode cX5_basinBeside 10 = .ok (.istore 4, 2) := by decide +kernel
theorem dX5_basinBeside_12 : decode cX5_basinBeside 12 = .ok (.iload 4, 2) := by decide +kernel
theorem dX5_basinBeside_14 : decode cX5_basinBeside 14 = .ok (.iconst (-1), 1) := by decide +kernel
theorem dX5_basinBeside_15 : decode cX5_basinBeside 15 = .ok (.if_icmp .eq 17, 3) := by decide +kernel
theorem dX5_basinBeside_18 : decode cX5_basinBeside 18 = .ok (.aload_n 3, 1) := by decide +kernel
theorem dX5_basinBeside_19 : decode cX5_basinBeside 19 = .ok (.iload 4, 2) := by decide +kernel
theorem dX5_basinBeside_21 : decode cX5_basinBeside 21 = .ok (.iaload, 1) := by decide +kernel
theorem dX5_basinBeside_22 : decode cX5_basinBeside 22 = .ok (.ifCond .le 10, 3) := by decide +kernel
theorem dX5_basinBeside_25 : decode cX5_basinBeside 25 = .ok (.aload_n 3, 1) := by decide +kernel
theorem dX5_basinBeside_26 : decode cX5_basinBeside 26 = .ok (.iload 4, 2) := by decide +kernel
theorem dX5_basinBeside_28 : decode cX5_basinBeside 28 = .ok (.iaload, 1) := by decide +kernel
theorem dX5_basinBeside_29 : decode cX5_basinBeside 29 = .ok (.goto 5, 3) := by decide +kernel
theorem dX5_basinBeside_32 : decode cX5_basinBeside 32 = .ok (.bipush (-6), 2) := by decide +kernel
theorem dX5_basinBeside_34 : decode cX5_basinBeside 34 = .ok (.ireturn, 1) := by decide +kernel
theorem dX6_init_0 : decode cX6_init 0 = .ok (.aload_n 0, 1) := by decide +kernel
theorem dX6_init_1 : decode cX6_init 1 = .ok (.invokespecial 1, 3) := by decide +kernel
theorem dX6_init_4 : decode cX6_init 4 = .ok (.aload_n 0, 1) := by decide +kernel
theorem dX6_init_5 : decode cX6_init 5 = .ok (.new 7, 3) := by decide +kernel
theorem dX6_init_8 : decode cX6_init 8 = .ok (.dup, 1) := by decide +kernel
theorem dX6_init_9 : decode cX6_init 9 = .ok (.invokespecial 9, 3) := by decide +kernel
theorem dX6_init_12 : decode cX6_init 12 = .ok (.putfield 10, 3) := by decide +kernel
theorem dX6_init_15 : decode cX6_init 15 = .ok (.aload_n 0, 1) := by decide +kernel
theorem dX6_init_16 : decode cX6_init 16 = .ok (.new 16, 3) := by decide +kernel
theorem dX6_init_19 : decode cX6_init 19 = .ok (.dup, 1) := by decide +kernel
theorem dX6_init_20 : decode cX6_init 20 = .ok (.invokespecial 18, 3) := by decide +kernel
theorem dX6_init_23 : decode cX6_init 23 = .ok (.putfield 19, 3) := by decide +kernel
theorem dX6_init_26 : decode cX6_init 26 = .ok (.aload_n 0, 1) := by decide +kernel
theorem dX6_init_27 : decode cX6_init 27 = .ok (.new 23, 3) := by decide +kernel
theorem dX6_init_30 : decode cX6_init 30 = .ok (.dup, 1) := by decide +kernel
theorem dX6_init_31 : decode cX6_init 31 = .ok (.invokespecial 25, 3) := by decide +kernel
theorem dX6_init_34 : decode cX6_init 34 = .ok (.putfield 26, 3) := by decide +kernel
theorem dX6_init_37 : decode cX6_init 37 = .ok (.aload_n 0, 1) := by decide +kernel
theorem dX6_init_38 : decode cX6_init 38 = .ok (.new 30, 3) := by decide +kernel
theorem dX6_init_41 : decode cX6_init 41 = .ok (.dup, 1) := by decide +kernel
theorem dX6_init_42 : decode cX6_init 42 = .ok (.invokespecial 32, 3) := by decide +kernel
theorem dX6_init_45 : decode cX6_init 45 = .ok (.putfield 33, 3) := by decide +kernel
theorem dX6_init_48 : decode cX6_init 48 = .ok (.aload_n 0, 1) := by decide +kernel
theorem dX6_init_49 : decode cX6_init 49 = .ok (.new 30, 3) := by decide +kernel
theorem dX6_init_52 : decode cX6_init 52 = .ok (.dup, 1) := by decide +kernel
theorem dX6_init_53 : decode cX6_init 53 = .ok (.invokespecial 32, 3) := by decide +kernel
theorem dX6_init_56 : decode cX6_init 56 = .ok (.putfield 37, 3) := by decide +kernel
theorem dX6_init_59 : decode cX6_init 59 = .ok (.aload_n 0, 1) := by decide +kernel
theorem dX6_init_60 : decode cX6_init 60 = .ok (.iconst 2, 1) := by decide +kernel
theorem dX6_init_61 : decode cX6_init 61 = .ok (.anewarray 40, 3) := by decide +kernel
theorem dX6_init_64 : decode cX6_init 64 = .ok (.dup, 1) := by decide +kernel
theorem dX6_init_65 : decode cX6_init 65 = .ok (.iconst 0, 1) := by decide +kernel
theorem dX6_init_66 : decode cX6_init 66 = .ok (.new 40, 3) := by decide +kernel
theorem dX6_init_69 : decode cX6_init 69 = .ok (.dup, 1) := by decide +kernel
theorem dX6_init_70 : decode cX6_init 70 = .ok (.invokespecial 42, 3) := by decide +kernel
theorem dX6_init_73 : decode cX6_init 73 = .ok (.aastore, 1) := by decide +kernel
theorem dX6_init_74 : decode cX6_init 74 = .ok (.dup, 1) := by decide +kernel
theorem dX6_init_75 : decode cX6_init 75 = .ok (.iconst 1, 1) := by decide +kernel
theorem dX6_init_76 : decode cX6_init 76 = .ok (.new 40, 3) := by decide +kernel
theorem dX6_init_79 : decode cX6_init 79 = .ok (.dup, 1) := by decide +kernel
theorem dX6_init_80 : decode cX6_init 80 = .ok (.invokespecial 42, 3) := by decide +kernel
theorem dX6_init_83 : decode cX6_init 83 = .ok (.aastore, 1) := by decide +kernel
theorem dX6_init_84 : decode cX6_init 84 = .ok (.putfield 43, 3) := by decide +kernel
theorem dX6_init_87 : decode cX6_init 87 = .ok (.aload_n 0, 1) := by decide +kernel
theorem dX6_init_88 : decode cX6_init 88 = .ok (.iconst 0, 1) := by decide +kernel
theorem dX6_init_89 : decode cX6_init 89 = .ok (.putfield 47, 3) := by decide +kernel
theorem dX6_init_92 : decode cX6_init 92 = .ok (.aload_n 0, 1) := by decide +kernel
theorem dX6_init_93 : decode cX6_init 93 = .ok (.iconst 0, 1) := by decide +kernel
theorem dX6_init_94 : decode cX6_init 94 = .ok (.putfield 51, 3) := by decide +kernel
theorem dX6_init_97 : decode cX6_init 97 = .ok (.aload_n 0, 1) := by decide +kernel
theorem dX6_init_98 : decode cX6_init 98 = .ok (.iconst 0, 1) := by decide +kernel
theorem dX6_init_99 : decode cX6_init 99 = .ok (.putfield 54, 3) := by decide +kernel
theorem dX6_init_102 : decode cX6_init 102 = .ok (.aload_n 0, 1) := by decide +kernel
theorem dX6_init_103 : decode cX6_init 103 = .ok (.iconst 0, 1) := by decide +kernel
theorem dX6_init_104 : decode cX6_init 104 = .ok (.putfield 58, 3) := by decide +kernel
theorem dX6_init_107 : decode cX6_init 107 = .ok (.aload_n 0, 1) := by decide +kernel
theorem dX6_init_108 : decode cX6_init 108 = .ok (.iconst 0, 1) := by decide +kernel
theorem dX6_init_109 : decode cX6_init 109 = .ok (.putfield 61, 3) := by decide +kernel
theorem dX6_init_112 : decode cX6_init 112 = .ok (.aload_n 0, 1) := by decide +kernel
theorem dX6_init_113 : decode cX6_init 113 = .ok (.getfield 10, 3) := by decide +kernel
theorem dX6_init_116 : decode cX6_init 116 = .ok (.bipush 8, 2) := by decide +kernel
theorem dX6_init_118 : decode cX6_init 118 = .ok (.bipush 8, 2) := by decide +kernel
theorem dX6_init_120 : decode cX6_init 120 = .ok (.invokevirtual 64, 3) := by decide +kernel
theorem dX6_init_123 : decode cX6_init 123 = .ok (.return_, 1) := by decide +kernel
theorem dX6_land_0 : decode cX6_land 0 = .ok (.iload_n 1, 1) := by decide +kernel
theorem dX6_land_1 : decode cX6_land 1 = .ok (.iconst 1, 1) := by decide +kernel
theorem dX6_land_2 : decode cX6_land 2 = .ok (.bipush 12, 2) := by decide +kernel
theorem dX6_land_4 : decode cX6_land 4 = .ok (.invokestatic 68, 3) := by decide +kernel
theorem dX6_land_7 : decode cX6_land 7 = .ok (.ifCond .eq 13, 3) := by decide +kernel
theorem dX6_land_10 : decode cX6_land 10 = .ok (.iload_n 2, 1) := by decide +kernel
theorem dX6_land_11 : decode cX6_land 11 = .ok (.iconst 1, 1) := by decide +kernel
theorem dX6_land_12 : decode cX6_land 12 = .ok (.bipush 12, 2) := by decide +kernel
theorem dX6_land_14 : decode cX6_land 14 = .ok (.invokestatic 68, 3) := by decide +kernel
theorem dX6_land_17 : decode cX6_land 17 = .ok (.ifCond .ne 6, 3) := by decide +kernel
theorem dX6_land_20 : decode cX6_land 20 = .ok (.bipush (-2), 2) := by decide +kernel
theorem dX6_land_22 : decode cX6_land 22 = .ok (.ireturn, 1) := by decide +kernel
theorem dX6_land_23 : decode cX6_land 23 = .ok (.aload_n 0, 1) := by decide +kernel
theorem dX6_land_24 : decode cX6_land 24 = .ok (.getfield 10, 3) := by decide +kernel
theorem dX6_land_27 : decode cX6_land 27 = .ok (.iload_n 1, 1) := by decide +kernel
theorem dX6_land_28 : decode cX6_land 28 = .ok (.iload_n 2, 1) := by decide +kernel
theorem dX6_land_29 : decode cX6_land 29 = .ok (.invokevirtual 64, 3) := by decide +kernel
theorem dX6_land_32 : decode cX6_land 32 = .ok (.aload_n 0, 1) := by decide +kernel
theorem dX6_land_33 : decode cX6_land 33 = .ok (.getfield 10, 3) := by decide +kernel
theorem dX6_land_36 : decode cX6_land 36 = .ok (.invokevirtual 72, 3) := by decide +kernel
theorem dX6_land_39 : decode cX6_land 39 = .ok (.aload_n 0, 1) := by decide +kernel
theorem dX6_land_40 : decode cX6_land 40 = .ok (.invokevirtual 75, 3) := by decide +kernel
theorem dX6_land_43 : decode cX6_land 43 = .ok (.ireturn, 1) := by decide +kernel
theorem dX6_wave_0 : decode cX6_wave 0 = .ok (.iload_n 1, 1) := by decide +kernel
theorem dX6_wave_1 : decode cX6_wave 1 = .ok (.iconst 0, 1) := by decide +kernel
theorem dX6_wave_2 : decode cX6_wave 2 = .ok (.bipush 50, 2) := by decide +kernel
theorem dX6_wave_4 : decode cX6_wave 4 = .ok (.invokestatic 68, 3) := by decide +kernel
theorem dX6_wave_7 : decode cX6_wave 7 = .ok (.ifCond .eq 27, 3) := by decide +kernel
theorem dX6_wave_10 : decode cX6_wave 10 = .ok (.iload_n 2, 1) := by decide +kernel
theorem dX6_wave_11 : decode cX6_wave 11 = .ok (.iconst 0, 1) := by decide +kernel
theorem dX6_wave_12 : decode cX6_wave 12 = .ok (.bipush 50, 2) := by decide +kernel
theorem dX6_wave_14 : decode cX6_wave 14 = .ok (.invokestatic 68, 3) := by decide +kernel
theorem dX6_wave_17 : decode cX6_wave 17 = .ok (.ifCond .eq 17, 3) := by decide +kernel
theorem dX6_wave_20 : decode cX6_wave 20 = .ok (.iload_n 3, 1) := by decide +kernel
theorem dX6_wave_21 : decode cX6_wave 21 = .ok (.iconst 0, 1) := by decide +kernel
theorem dX6_wave_22 : decode cX6_wave 22 = .ok (.bipush 50, 2) := by decide +kernel
theorem dX6_wave_24 : decode cX6_wave 24 = .ok (.invokestatic 68, 3) := by decide +kernel
theorem dX6_wave_27 : decode cX6_wave 27 = .ok (.ifCond .eq 7, 3) := by decide +kernel
theorem dX6_wave_30 : decode cX6_wave 30 = .ok (.iconst 1, 1) := by decide +kernel
theorem dX6_wave_31 : decode cX6_wave 31 = .ok (.goto 4, 3) := by decide +kernel
theorem dX6_wave_34 : decode cX6_wave 34 = .ok (.iconst 0, 1) := by decide +kernel
theorem dX6_wave_35 : decode cX6_wave 35 = .ok (.istore 5, 2) := by decide +kernel
theorem dX6_wave_37 : decode cX6_wave 37 = .ok (.iload 5, 2) := by decide +kernel
theorem dX6_wave_39 : decode cX6_wave 39 = .ok (.ifCond .eq 14, 3) := by decide +kernel
theorem dX6_wave_42 : decode cX6_wave 42 = .ok (.iload 4, 2) := by decide +kernel
theorem dX6_wave_44 : decode cX6_wave 44 = .ok (.iconst 1, 1) := by decide +kernel
theorem dX6_wave_45 : decode cX6_wave 45 = .ok (.bipush 100, 2) := by decide +kernel
theorem dX6_wave_47 : decode cX6_wave 47 = .ok (.invokestatic 68, 3) := by decide +kernel
theorem dX6_wave_50 : decode cX6_wave 50 = .ok (.ifCond .ne 6, 3) := by decide +kernel
theorem dX6_wave_53 : decode cX6_wave 53 = .ok (.bipush (-2), 2) := by decide +kernel
theorem dX6_wave_55 : decode cX6_wave 55 = .ok (.ireturn, 1) := by decide +kernel
theorem dX6_wave_56 : decode cX6_wave 56 = .ok (.aload_n 0, 1) := by decide +kernel
theorem dX6_wave_57 : decode cX6_wave 57 = .ok (.getfield 10, 3) := by decide +kernel
theorem dX6_wave_60 : decode cX6_wave 60 = .ok (.iload_n 1, 1) := by decide +kernel
theorem dX6_wave_61 : decode cX6_wave 61 = .ok (.iload_n 2, 1) := by decide +kernel
theorem dX6_wave_62 : decode cX6_wave 62 = .ok (.iload_n 3, 1) := by decide +kernel
theorem dX6_wave_63 : decode cX6_wave 63 = .ok (.iload 4, 2) := by decide +kernel
theorem dX6_wave_65 : decode cX6_wave 65 = .ok (.invokevirtual 79, 3) := by decide +kernel
theorem dX6_wave_68 : decode cX6_wave 68 = .ok (.aload_n 0, 1) := by decide +kernel
theorem dX6_wave_69 : decode cX6_wave 69 = .ok (.invokevirtual 75, 3) := by decide +kernel
theorem dX6_wave_72 : decode cX6_wave 72 = .ok (.ireturn, 1) := by decide +kernel
theorem dX6_heap_0 : decode cX6_heap 0 = .ok (.iload_n 3, 1) := by decide +kernel
theorem dX6_heap_1 : decode cX6_heap 1 = .ok (.bipush (-99), 2) := by decide +kernel
theorem dX6_heap_3 : decode cX6_heap 3 = .ok (.bipush 99, 2) := by decide +kernel
theorem dX6_heap_5 : decode cX6_heap 5 = .ok (.invokestatic 68, 3) := by decide +kernel
theorem dX6_heap_8 : decode cX6_heap 8 = .ok (.ifCond .eq 18, 3) := by decide +kernel
theorem dX6_heap_11 : decode cX6_heap 11 = .ok (.iload 4, 2) := by decide +kernel
theorem dX6_heap_13 : decode cX6_heap 13 = .ok (.iconst 0, 1) := by decide +kernel
theorem dX6_heap_14 : decode cX6_heap 14 = .ok (.bipush 50, 2) := by decide +kernel
theorem dX6_heap_16 : decode cX6_heap 16 = .ok (.invokestatic 68, 3) := by decide +kernel
theorem dX6_heap_19 : decode cX6_heap 19 = .ok (.ifCond .eq 7, 3) := by decide +kernel
theorem dX6_heap_22 : decode cX6_heap 22 = .ok (.iconst 1, 1) := by decide +kernel
theorem dX6_heap_23 : decode cX6_heap 23 = .ok (.goto 4, 3) := by decide +kernel
theorem dX6_heap_26 : decode cX6_heap 26 = .ok (.iconst 0, 1) := by decide +kernel
theorem dX6_heap_27 : decode cX6_heap 27 = .ok (.istore 5, 2) := by decide +kernel
theorem dX6_heap_29 : decode cX6_heap 29 = .ok (.aload_n 0, 1) := by decide +kernel
theorem dX6_heap_30 : decode cX6_heap 30 = .ok (.getfield 10, 3) := by decide +kernel
theorem dX6_heap_33 : decode cX6_heap 33 = .ok (.iload_n 1, 1) := by decide +kernel
theorem dX6_heap_34 : decode cX6_heap 34 = .ok (.iload_n 2, 1) := by decide +kernel
theorem dX6_heap_35 : decode cX6_heap 35 = .ok (.invokevirtual 83, 3) := by decide +kernel
theorem dX6_heap_38 : decode cX6_heap 38 = .ok (.iconst (-1), 1) := by decide +kernel
theorem dX6_heap_39 : decode cX6_heap 39 = .ok (.if_icmp .eq 8, 3) := by decide +kernel
theorem dX6_heap_42 : decode cX6_heap 42 = .ok (.iload 5, 2) := by decide +kernel
theorem dX6_heap_44 : decode cX6_heap 44 = .ok (.ifCond .ne 6, 3) := by decide +kernel
theorem dX6_heap_47 : decode cX6_heap 47 = .ok (.bipush (-2), 2) := by decide +kernel
theorem dX6_heap_49 : decode cX6_heap 49 = .ok (.ireturn, 1) := by decide +kernel
theorem dX6_heap_50 : decode cX6_heap 50 = .ok (.aload_n 0, 1) := by decide +kernel
theorem dX6_heap_51 : decode cX6_heap 51 = .ok (.getfield 10, 3) := by decide +kernel
theorem dX6_heap_54 : decode cX6_heap 54 = .ok (.iload_n 1, 1) := by decide +kernel
theorem dX6_heap_55 : decode cX6_heap 55 = .ok (.iload_n 2, 1) := by decide +kernel
theorem dX6_heap_56 : decode cX6_heap 56 = .ok (.iload_n 3, 1) := by decide +kernel
theorem dX6_heap_57 : decode cX6_heap 57 = .ok (.iload 4, 2) := by decide +kernel
theorem dX6_heap_59 : decode cX6_heap 59 = .ok (.invokevirtual 87, 3) := by decide +kernel
theorem dX6_heap_62 : decode cX6_heap 62 = .ok (.aload_n 0, 1) := by decide +kernel
theorem dX6_heap_63 : decode cX6_heap 63 = .ok (.invokevirtual 75, 3) := by decide +kernel
theorem dX6_heap_66 : decode cX6_heap 66 = .ok (.ireturn, 1) := by decide +kernel
theorem dX6_put_0 : decode cX6_put 0 = .ok (.aload_n 0, 1) := by decide +kernel
theorem dX6_put_1 : decode cX6_put 1 = .ok (.getfield 10, 3) := by decide +kernel
theorem dX6_put_4 : decode cX6_put 4 = .ok (.iload_n 1, 1) := by decide +kernel
theorem dX6_put_5 : decode cX6_put 5 = .ok (.iload_n 2, 1) := by decide +kernel
theorem dX6_put_6 : decode cX6_put 6 = .ok (.invokevirtual 83, 3) := by decide +kernel
theorem dX6_put_9 : decode cX6_put 9 = .ok (.istore 4, 2) := by decide +kernel
theorem dX6_put_11 : decode cX6_put 11 = .ok (.iload 4, 2) := by decide +kernel
theorem dX6_put_13 : decode cX6_put 13 = .ok (.iconst (-1), 1) := by decide +kernel
theorem dX6_put_14 : decode cX6_put 14 = .ok (.if_icmp .eq 13, 3) := by decide +kernel
theorem dX6_put_17 : decode cX6_put 17 = .ok (.iload_n 3, 1) := by decide +kernel
theorem dX6_put_18 : decode cX6_put 18 = .ok (.iconst 0, 1) := by decide +kernel
theorem dX6_put_19 : decode cX6_put 19 = .ok (.bipush 99, 2) := by decide +kernel
theorem dX6_put_21 : decode cX6_put 21 = .ok (.invokestatic 68, 3) := by decide +kernel
theorem dX6_put_24 : decode cX6_put 24 = .ok (.ifCond .ne 6, 3) := by decide +kernel
theorem dX6_put_27 : decode cX6_put 27 = .ok (.bipush (-2), 2) := by decide +kernel
theorem dX6_put_29 : decode cX6_put 29 = .ok (.ireturn, 1) := by decide +kernel
theorem dX6_put_30 : decode cX6_put 30 = .ok (.aload_n 0, 1) := by decide +kernel
theorem dX6_put_31 : decode cX6_put 31 = .ok (.getfield 10, 3) := by decide +kernel
theorem dX6_put_34 : decode cX6_put 34 = .ok (.getfield 90, 3) := by decide +kernel
theorem dX6_put_37 : decode cX6_put 37 = .ok (.iload 4, 2) := by decide +kernel
theorem dX6_put_39 : decode cX6_put 39 = .ok (.iload_n 3, 1) := by decide +kernel
theorem dX6_put_40 : decode cX6_put 40 = .ok (.iastore, 1) := by decide +kernel
theorem dX6_put_41 : decode cX6_put 41 = .ok (.aload_n 0, 1) := by decide +kernel
theorem dX6_put_42 : decode cX6_put 42 = .ok (.invokevirtual 75, 3) := by decide +kernel
theorem dX6_put_45 : decode cX6_put 45 = .ok (.ireturn, 1) := by decide +kernel
theorem dX6_mark_0 : decode cX6_mark 0 = .ok (.aload_n 0, 1) := by decide +kernel
theorem dX6_mark_1 : decode cX6_mark 1 = .ok (.getfield 10, 3) := by decide +kernel
theorem dX6_mark_4 : decode cX6_mark 4 = .ok (.iload_n 1, 1) := by decide +kernel
theorem dX6_mark_5 : decode cX6_mark 5 = .ok (.iload_n 2, 1) := by decide +kernel
theorem dX6_mark_6 : decode cX6_mark 6 = .ok (.invokevirtual 83, 3) := by decide +kernel
theorem dX6_mark_9 : decode cX6_mark 9 = .ok (.istore 4, 2) := by decide +kernel
theorem dX6_mark_11 : decode cX6_mark 11 = .ok (.iload 4, 2) := by decide +kernel
theorem dX6_mark_13 : decode cX6_mark 13 = .ok (.iconst (-1), 1) := by decide +kernel
theorem dX6_mark_14 : decode cX6_mark 14 = .ok (.if_icmp .eq 13, 3) := by decide +kernel
theorem dX6_mark_17 : decode cX6_mark 17 = .ok (.iload_n 3, 1) := by decide +kernel
theorem dX6_mark_18 : decode cX6_mark 18 = .ok (.iconst 0, 1) := by decide +kernel
theorem dX6_mark_19 : decode cX6_mark 19 = .ok (.bipush 99, 2) := by decide +kernel
theorem dX6_mark_21 : decode cX6_mark 21 = .ok (.invokestatic 68, 3) := by decide +kernel
theorem dX6_mark_24 : decode cX6_mark 24 = .ok (.ifCond .ne 6, 3) := by decide +kernel
theorem dX6_mark_27 : decode cX6_mark 27 = .ok (.bipush (-2), 2) := by decide +kernel
theorem dX6_mark_29 : decode cX6_mark 29 = .ok (.ireturn, 1) := by decide +kernel
theorem dX6_mark_30 : decode cX6_mark 30 = .ok (.aload_n 0, 1) := by decide +kernel
theorem dX6_mark_31 : decode cX6_mark 31 = .ok (.getfield 10, 3) := by decide +kernel
theorem dX6_mark_34 : decode cX6_mark 34 = .ok (.getfield 94, 3) := by decide +kernel
theorem dX6_mark_37 : decode cX6_mark 37 = .ok (.iload 4, 2) := by decide +kernel
theorem dX6_mark_39 : decode cX6_mark 39 = .ok (.iaload, 1) := by decide +kernel
theorem dX6_mark_40 : decode cX6_mark 40 = .ok (.istore 5, 2) := by decide +kernel
theorem dX6_mark_42 : decode cX6_mark 42 = .ok (.aload_n 0, 1) := by decide +kernel
theorem dX6_mark_43 : decode cX6_mark 43 = .ok (.getfield 10, 3) := by decide +kernel
theorem dX6_mark_46 : decode cX6_mark 46 = .ok (.getfield 94, 3) := by decide +kernel
theorem dX6_mark_49 : decode cX6_mark 49 = .ok (.iload 4, 2) := by decide +kernel
theorem dX6_mark_51 : decode cX6_mark 51 = .ok (.iload_n 3, 1) := by decide +kernel
theorem dX6_mark_52 : decode cX6_mark 52 = .ok (.iastore, 1) := by decide +kernel
theorem dX6_mark_53 : decode cX6_mark 53 = .ok (.aload_n 0, 1) := by decide +kernel
theorem dX6_mark_54 : decode cX6_mark 54 = .ok (.invokevirtual 97, 3) := by decide +kernel
theorem dX6_mark_57 : decode cX6_mark 57 = .ok (.iload 5, 2) := by decide +kernel
theorem dX6_mark_59 : decode cX6_mark 59 = .ok (.ireturn, 1) := by decide +kernel
theorem dX6_pits_0 : decode cX6_pits 0 = .ok (.aload_n 0, 1) := by decide +kernel
theorem dX6_pits_1 : decode cX6_pits 1 = .ok (.getfield 10, 3) := by decide +kernel
theorem dX6_pits_4 : decode cX6_pits 4 = .ok (.getfield 94, 3) := by decide +kernel
theorem dX6_pits_7 : decode cX6_pits 7 = .ok (.iconst 0, 1) := by decide +kernel
theorem dX6_pits_8 : decode cX6_pits 8 = .ok (.invokestatic 100, 3) := by decide +kernel
theorem dX6_pits_11 : decode cX6_pits 11 = .ok (.aload_n 0, 1) := by decide +kernel
theorem dX6_pits_12 : decode cX6_pits 12 = .ok (.invokevirtual 97, 3) := by decide +kernel
theorem dX6_pits_15 : decode cX6_pits 15 = .ok (.aload_n 0, 1) := by decide +kernel
theorem dX6_pits_16 : decode cX6_pits 16 = .ok (.iconst 1, 1) := by decide +kernel
theorem dX6_pits_17 : decode cX6_pits 17 = .ok (.invokevirtual 106, 3) := by decide +kernel
theorem dX6_pits_20 : decode cX6_pits 20 = .ok (.ireturn, 1) := by decide +kernel
theorem dX6_dot_0 : decode cX6_dot 0 = .ok (.aload_n 0, 1) := by decide +kernel
theorem dX6_dot_1 : decode cX6_dot 1 = .ok (.getfield 10, 3) := by decide +kernel
theorem dX6_dot_4 : decode cX6_dot 4 = .ok (.iload_n 1, 1) := by decide +kernel
theorem dX6_dot_5 : decode cX6_dot 5 = .ok (.iload_n 2, 1) := by decide +kernel
theorem dX6_dot_6 : decode cX6_dot 6 = .ok (.invokevirtual 83, 3) := by decide +kernel
theorem dX6_dot_9 : decode cX6_dot 9 = .ok (.istore 4, 2) := by decide +kernel
theorem dX6_dot_11 : decode cX6_dot 11 = .ok (.iload 4, 2) := by decide +kernel
theorem dX6_dot_13 : decode cX6_dot 13 = .ok (.iconst (-1), 1) := by decide +kernel
theorem dX6_dot_14 : decode cX6_dot 14 = .ok (.if_icmp .ne 6, 3) := by decide +kernel
theorem dX6_dot_17 : decode cX6_dot 17 = .ok (.bipush (-2), 2) := by decide +kernel
theorem dX6_dot_19 : decode cX6_dot 19 = .ok (.ireturn, 1) := by decide +kernel
theorem dX6_dot_20 : decode cX6_dot 20 = .ok (.iload_n 3, 1) := by decide +kernel
theorem dX6_dot_21 : decode cX6_dot 21 = .ok (.tableswitch 105 0 5 #[39, 50, 61, 72, 83, 94], 39) := by decide +kernel
theorem dX6_dot_60 : decode cX6_dot 60 = .ok (.aload_n 0, 1) := by decide +kernel
theorem dX6_dot_61 : decode cX6_dot 61 = .ok (.getfield 10, 3) := by decide +kernel
theorem dX6_dot_64 : decode cX6_dot 64 = .ok (.getfield 90, 3) := by decide +kernel
theorem dX6_dot_67 : decode cX6_dot 67 = .ok (.iload 4, 2) := by decide +kernel
theorem dX6_dot_69 : decode cX6_dot 69 = .ok (.iaload, 1) := by decide +kernel
theorem dX6_dot_70 : decode cX6_dot 70 = .ok (.ireturn, 1) := by decide +kernel
theorem dX6_dot_71 : decode cX6_dot 71 = .ok (.aload_n 0, 1) := by decide +kernel
theorem dX6_dot_72 : decode cX6_dot 72 = .ok (.getfield 10, 3) := by decide +kernel
theorem dX6_dot_75 : decode cX6_dot 75 = .ok (.getfield 94, 3) := by decide +kernel
theorem dX6_dot_78 : decode cX6_dot 78 = .ok (.iload 4, 2) := by decide +kernel
theorem dX6_dot_80 : decode cX6_dot 80 = .ok (.iaload, 1) := by decide +kernel
theorem dX6_dot_81 : decode cX6_dot 81 = .ok (.ireturn, 1) := by decide +kernel
theorem dX6_dot_82 : decode cX6_dot 82 = .ok (.aload_n 0, 1) := by decide +kernel
theorem dX6_dot_83 : decode cX6_dot 83 = .ok (.invokevirtual 110, 3) := by decide +kernel
theorem dX6_dot_86 : decode cX6_dot 86 = .ok (.getfield 114, 3) := by decide +kernel
theorem dX6_dot_89 : decode cX6_dot 89 = .ok (.iload 4, 2) := by decide +kernel
theorem dX6_dot_91 : decode cX6_dot 91 = .ok (.iaload, 1) := by decide +kernel
theorem dX6_dot_92 : decode cX6_dot 92 = .ok (.ireturn, 1) := by decide +kernel
theorem dX6_dot_93 : decode cX6_dot 93 = .ok (.aload_n 0, 1) := by decide +kernel
theorem dX6_dot_94 : decode cX6_dot 94 = .ok (.invokevirtual 110, 3) := by decide +kernel
theorem dX6_dot_97 : decode cX6_dot 97 = .ok (.getfield 117, 3) := by decide +kernel
theorem dX6_dot_100 : decode cX6_dot 100 = .ok (.iload 4, 2) := by decide +kernel
theorem dX6_dot_102 : decode cX6_dot 102 = .ok (.iaload, 1) := by decide +kernel
theorem dX6_dot_103 : decode cX6_dot 103 = .ok (.ireturn, 1) := by decide +kernel
theorem dX6_dot_104 : decode cX6_dot 104 = .ok (.aload_n 0, 1) := by decide +kernel
theorem dX6_dot_105 : decode cX6_dot 105 = .ok (.invokevirtual 110, 3) := by decide +kernel
theorem dX6_dot_108 : decode cX6_dot 108 = .ok (.getfield 120, 3) := by decide +kernel
theorem dX6_dot_111 : decode cX6_dot 111 = .ok (.iload 4, 2) := by decide +kernel
theorem dX6_dot_113 : decode cX6_dot 113 = .ok (.iaload, 1) := by decide +kernel
theorem dX6_dot_114 : decode cX6_dot 114 = .ok (.ireturn, 1) := by decide +kernel
theorem dX6_dot_115 : decode cX6_dot 115 = .ok (.aload_n 0, 1) := by decide +kernel
theorem dX6_dot_116 : decode cX6_dot 116 = .ok (.invokevirtual 123, 3) := by decide +kernel
theorem dX6_dot_119 : decode cX6_dot 119 = .ok (.getfield 127, 3) := by decide +kernel
theorem dX6_dot_122 : decode cX6_dot 122 = .ok (.iload 4, 2) := by decide +kernel
theorem dX6_dot_124 : decode cX6_dot 124 = .ok (.iaload, 1) := by decide +kernel
theorem dX6_dot_125 : decode cX6_dot 125 = .ok (.ireturn, 1) := by decide +kernel
theorem dX6_dot_126 : decode cX6_dot 126 = .ok (.bipush (-2), 2) := by decide +kernel
theorem dX6_dot_128 : decode cX6_dot 128 = .ok (.ireturn, 1) := by decide +kernel
theorem dX6_bound_0 : decode cX6_bound 0 = .ok (.iload_n 1, 1) := by decide +kernel
theorem dX6_bound_1 : decode cX6_bound 1 = .ok (.iconst 0, 1) := by decide +kernel
theorem dX6_bound_2 : decode cX6_bound 2 = .ok (.iconst 2, 1) := by decide +kernel
theorem dX6_bound_3 : decode cX6_bound 3 = .ok (.invokestatic 68, 3) := by decide +kernel
theorem dX6_bound_6 : decode cX6_bound 6 = .ok (.ifCond .eq 14, 3) := by decide +kernel
theorem dX6_bound_9 : decode cX6_bound 9 = .ok (.iload_n 2, 1) := by decide +kernel
theorem dX6_bound_10 : decode cX6_bound 10 = .ok (.iconst 0, 1) := by decide +kernel
theorem dX6_bound_11 : decode cX6_bound 11 = .ok (.sipush 2000, 3) := by decide +kernel
theorem dX6_bound_14 : decode cX6_bound 14 = .ok (.invokestatic 68, 3) := by decide +kernel
theorem dX6_bound_17 : decode cX6_bound 17 = .ok (.ifCond .ne 6, 3) := by decide +kernel
theorem dX6_bound_20 : decode cX6_bound 20 = .ok (.bipush (-2), 2) := by decide +kernel
theorem dX6_bound_22 : decode cX6_bound 22 = .ok (.ireturn, 1) := by decide +kernel
theorem dX6_bound_23 : decode cX6_bound 23 = .ok (.aload_n 0, 1) := by decide +kernel
theorem dX6_bound_24 : decode cX6_bound 24 = .ok (.iload_n 1, 1) := by decide +kernel
theorem dX6_bound_25 : decode cX6_bound 25 = .ok (.putfield 47, 3) := by decide +kernel
theorem dX6_bound_28 : decode cX6_bound 28 = .ok (.aload_n 0, 1) := by decide +kernel
theorem dX6_bound_29 : decode cX6_bound 29 = .ok (.iload_n 2, 1) := by decide +kernel
theorem dX6_bound_30 : decode cX6_bound 30 = .ok (.putfield 51, 3) := by decide +kernel
theorem dX6_bound_33 : decode cX6_bound 33 = .ok (.aload_n 0, 1) := by decide +kernel
theorem dX6_bound_34 : decode cX6_bound 34 = .ok (.iconst 0, 1) := by decide +kernel
theorem dX6_bound_35 : decode cX6_bound 35 = .ok (.putfield 58, 3) := by decide +kernel
theorem dX6_bound_38 : decode cX6_bound 38 = .ok (.aload_n 0, 1) := by decide +kernel
theorem dX6_bound_39 : decode cX6_bound 39 = .ok (.invokevirtual 123, 3) := by decide +kernel
theorem dX6_bound_42 : decode cX6_bound 42 = .ok (.getfield 128, 3) := by decide +kernel
theorem dX6_bound_45 : decode cX6_bound 45 = .ok (.ireturn, 1) := by decide +kernel
theorem dX6_basin_0 : decode cX6_basin 0 = .ok (.aload_n 0, 1) := by decide +kernel
theorem dX6_basin_1 : decode cX6_basin 1 = .ok (.invokevirtual 123, 3) := by decide +kernel
theorem dX6_basin_4 : decode cX6_basin 4 = .ok (.astore_n 3, 1) := by decide +kernel
theorem dX6_basin_5 : decode cX6_basin 5 = .ok (.aload_n 3, 1) := by decide +kernel
theorem dX6_basin_6 : decode cX6_basin 6 = .ok (.iload_n 1, 1) := by decide +kernel
theorem dX6_basin_7 : decode cX6_basin 7 = .ok (.invokevirtual 131, 3) := by decide +kernel
theorem dX6_basin_10 : decode cX6_basin 10 = .ok (.ifCond .ne 5, 3) := by decide +kernel
theorem dX6_basin_13 : decode cX6_basin 13 = .ok (.iconst (-1), 1) := by decide +kernel
theorem dX6_basin_14 : decode cX6_basin 14 = .ok (.ireturn, 1) := by decide +kernel
theorem dX6_basin_15 : decode cX6_basin 15 = .ok (.iload_n 2, 1) := by decide +kernel
theorem dX6_basin_16 : decode cX6_basin 16 = .ok (.tableswitch 71 0 5 #[40, 40, 40, 47, 54, 64], 40) := by decide +kernel
theorem dX6_basin_56 : decode cX6_basin 56 = .ok (.aload_n 3, 1) := by decide +kernel
theorem dX6_basin_57 : decode cX6_basin 57 = .ok (.iload_n 1, 1) := by decide +kernel
theorem dX6_basin_58 : decode cX6_basin 58 = .ok (.iload_n 2, 1) := by decide +kernel
theorem dX6_basin_59 : decode cX6_basin 59 = .ok (.invokevirtual 135, 3) := by decide +kernel
theorem dX6_basin_62 : decode cX6_basin 62 = .ok (.ireturn, 1) := by decide +kernel
theorem dX6_basin_63 : decode cX6_basin 63 = .ok (.aload_n 3, 1) := by decide +kernel
theorem dX6_basin_64 : decode cX6_basin 64 = .ok (.getfield 138, 3) := by decide +kernel
theorem dX6_basin_67 : decode cX6_basin 67 = .ok (.iload_n 1, 1) := by decide +kernel
theorem dX6_basin_68 : decode cX6_basin 68 = .ok (.iaload, 1) := by decide +kernel
theorem dX6_basin_69 : decode cX6_basin 69 = .ok (.ireturn, 1) := by decide +kernel
theorem dX6_basin_70 : decode cX6_basin 70 = .ok (.aload_n 3, 1) := by decide +kernel
theorem dX6_basin_71 : decode cX6_basin 71 = .ok (.getfield 141, 3) := by decide +kernel
theorem dX6_basin_74 : decode cX6_basin 74 = .ok (.iload_n 1, 1) := by decide +kernel
theorem dX6_basin_75 : decode cX6_basin 75 = .ok (.iaload, 1) := by decide +kernel
theorem dX6_basin_76 : decode cX6_basin 76 = .ok (.invokestatic 144, 3) := by decide +kernel
theorem dX6_basin_79 : decode cX6_basin 79 = .ok (.ireturn, 1) := by decide +kernel
theorem dX6_basin_80 : decode cX6_basin 80 = .ok (.aload_n 3, 1) := by decide +kernel
theorem dX6_basin_81 : decode cX6_basin 81 = .ok (.getfield 148, 3) := by decide +kernel
theorem dX6_basin_84 : decode cX6_basin 84 = .ok (.iload_n 1, 1) := by decide +kernel
theorem dX6_basin_85 : decode cX6_basin 85 = .ok (.iaload, 1) := by decide +kernel
theorem dX6_basin_86 : decode cX6_basin 86 = .ok (.ireturn, 1) := by decide +kernel
theorem dX6_basin_87 : decode cX6_basin 87 = .ok (.bipush (-2), 2) := by decide +kernel
theorem dX6_basin_89 : decode cX6_basin 89 = .ok (.ireturn, 1) := by decide +kernel
theorem dX6_pass_0 : decode cX6_pass 0 = .ok (.aload_n 0, 1) := by decide +kernel
theorem dX6_pass_1 : decode cX6_pass 1 = .ok (.invokevirtual 123, 3) := by decide +kernel
theorem dX6_pass_4 : decode cX6_pass 4 = .ok (.astore_n 3, 1) := by decide +kernel
theorem dX6_pass_5 : decode cX6_pass 5 = .ok (.aload_n 3, 1) := by decide +kernel
theorem dX6_pass_6 : decode cX6_pass 6 = .ok (.iload_n 1, 1) := by decide +kernel
theorem dX6_pass_7 : decode cX6_pass 7 = .ok (.invokevirtual 131, 3) := by decide +kernel
theorem dX6_pass_10 : decode cX6_pass 10 = .ok (.ifCond .eq 11, 3) := by decide +kernel
theorem dX6_pass_13 : decode cX6_pass 13 = .ok (.aload_n 3, 1) := by decide +kernel
theorem dX6_pass_14 : decode cX6_pass 14 = .ok (.iload_n 2, 1) := by decide +kernel
theorem dX6_pass_15 : decode cX6_pass 15 = .ok (.invokevirtual 131, 3) := by decide +kernel
theorem dX6_pass_18 : decode cX6_pass 18 = .ok (.ifCond .ne 5, 3) := by decide +kernel
theorem dX6_pass_21 : decode cX6_pass 21 = .ok (.iconst (-1), 1) := by decide +kernel
theorem dX6_pass_22 : decode cX6_pass 22 = .ok (.ireturn, 1) := by decide +kernel
theorem dX6_pass_23 : decode cX6_pass 23 = .ok (.iload_n 1, 1) := by decide +kernel
theorem dX6_pass_24 : decode cX6_pass 24 = .ok (.iload_n 2, 1) := by decide +kernel
theorem dX6_pass_25 : decode cX6_pass 25 = .ok (.if_icmp .ne 6, 3) := by decide +kernel
theorem dX6_pass_28 : decode cX6_pass 28 = .ok (.bipush (-2), 2) := by decide +kernel
theorem dX6_pass_30 : decode cX6_pass 30 = .ok (.ireturn, 1) := by decide +kernel
theorem dX6_pass_31 : decode cX6_pass 31 = .ok (.aload_n 3, 1) := by decide +kernel
theorem dX6_pass_32 : decode cX6_pass 32 = .ok (.aload_n 0, 1) := by decide +kernel
theorem dX6_pass_33 : decode cX6_pass 33 = .ok (.getfield 10, 3) := by decide +kernel
theorem dX6_pass_36 : decode cX6_pass 36 = .ok (.iload_n 1, 1) := by decide +kernel
theorem dX6_pass_37 : decode cX6_pass 37 = .ok (.iload_n 2, 1) := by decide +kernel
theorem dX6_pass_38 : decode cX6_pass 38 = .ok (.invokevirtual 151, 3) := by decide +kernel
theorem dX6_pass_41 : decode cX6_pass 41 = .ok (.invokestatic 144, 3) := by decide +kernel
theorem dX6_pass_44 : decode cX6_pass 44 = .ok (.ireturn, 1) := by decide +kernel
theorem dX6_poured_0 : decode cX6_poured 0 = .ok (.aload_n 0, 1) := by decide +kernel
theorem dX6_poured_1 : decode cX6_poured 1 = .ok (.invokevirtual 123, 3) := by decide +kernel
theorem dX6_poured_4 : decode cX6_poured 4 = .ok (.iload_n 1, 1) := by decide +kernel
theorem dX6_poured_5 : decode cX6_poured 5 = .ok (.iload_n 2, 1) := by decide +kernel
theorem dX6_poured_6 : decode cX6_poured 6 = .ok (.invokevirtual 155, 3) := by decide +kernel
theorem dX6_poured_9 : decode cX6_poured 9 = .ok (.ireturn, 1) := by decide +kernel
theorem dX6_tree_0 : decode cX6_tree 0 = .ok (.aload_n 0, 1) := by decide +kernel
theorem dX6_tree_1 : decode cX6_tree 1 = .ok (.invokevirtual 158, 3) := by decide +kernel
theorem dX6_tree_4 : decode cX6_tree 4 = .ok (.iload_n 1, 1) := by decide +kernel
theorem dX6_tree_5 : decode cX6_tree 5 = .ok (.iload_n 2, 1) := by decide +kernel
theorem dX6_tree_6 : decode cX6_tree 6 = .ok (.invokevirtual 155, 3) := by decide +kernel
theorem dX6_tree_9 : decode cX6_tree 9 = .ok (.ireturn, 1) := by decide +kernel
theorem dX6_over_0 : decode cX6_over 0 = .ok (.aload_n 0, 1) := by decide +kernel
theorem dX6_over_1 : decode cX6_over 1 = .ok (.getfield 10, 3) := by decide +kernel
theorem dX6_over_4 : decode cX6_over 4 = .ok (.iload_n 1, 1) := by decide +kernel
theorem dX6_over_5 : decode cX6_over 5 = .ok (.iload_n 2, 1) := by decide +kernel
theorem dX6_over_6 : decode cX6_over 6 = .ok (.invokevirtual 83, 3) := by decide +kernel
theorem dX6_over_9 : decode cX6_over 9 = .ok (.istore 5, 2) := by decide +kernel
theorem dX6_over_11 : decode cX6_over 11 = .ok (.aload_n 0, 1) := by decide +kernel
theorem dX6_over_12 : decode cX6_over 12 = .ok (.getfield 10, 3) := by decide +kernel
theorem dX6_over_15 : decode cX6_over 15 = .ok (.iload_n 3, 1) := by decide +kernel
theorem dX6_over_16 : decode cX6_over 16 = .ok (.iload 4, 2) := by decide +kernel
theorem dX6_over_18 : decode cX6_over 18 = .ok (.invokevirtual 83, 3) := by decide +kernel
theorem dX6_over_21 : decode cX6_over 21 = .ok (.istore 6, 2) := by decide +kernel
theorem dX6_over_23 : decode cX6_over 23 = .ok (.iload 5, 2) := by decide +kernel
theorem dX6_over_25 : decode cX6_over 25 = .ok (.iconst (-1), 1) := by decide +kernel
theorem dX6_over_26 : decode cX6_over 26 = .ok (.if_icmp .eq 9, 3) := by decide +kernel
theorem dX6_over_29 : decode cX6_over 29 = .ok (.iload 6, 2) := by decide +kernel
theorem dX6_over_31 : decode cX6_over 31 = .ok (.iconst (-1), 1) := by decide +kernel
theorem dX6_over_32 : decode cX6_over 32 = .ok (.if_icmp .ne 6, 3) := by decide +kernel
theorem dX6_over_35 : decode cX6_over 35 = .ok (.bipush (-2), 2) := by decide +kernel
theorem dX6_over_37 : decode cX6_over 37 = .ok (.ireturn, 1) := by decide +kernel
theorem dX6_over_38 : decode cX6_over 38 = .ok (.aload_n 0, 1) := by decide +kernel
theorem dX6_over_39 : decode cX6_over 39 = .ok (.iload 5, 2) := by decide +kernel
theorem dX6_over_41 : decode cX6_over 41 = .ok (.iload 6, 2) := by decide +kernel
theorem dX6_over_43 : decode cX6_over 43 = .ok (.invokevirtual 161, 3) := by decide +kernel
theorem dX6_over_46 : decode cX6_over 46 = .ok (.ireturn, 1) := by decide +kernel
theorem dX6_wet_0 : decode cX6_wet 0 = .ok (.aload_n 0, 1) := by decide +kernel
theorem dX6_wet_1 : decode cX6_wet 1 = .ok (.getfield 10, 3) := by decide +kernel
theorem dX6_wet_4 : decode cX6_wet 4 = .ok (.iload_n 1, 1) := by decide +kernel
theorem dX6_wet_5 : decode cX6_wet 5 = .ok (.iload_n 2, 1) := by decide +kernel
theorem dX6_wet_6 : decode cX6_wet 6 = .ok (.invokevirtual 83, 3) := by decide +kernel
theorem dX6_wet_9 : decode cX6_wet 9 = .ok (.istore 5, 2) := by decide +kernel
theorem dX6_wet_11 : decode cX6_wet 11 = .ok (.iload 5, 2) := by decide +kernel
theorem dX6_wet_13 : decode cX6_wet 13 = .ok (.iconst (-1), 1) := by decide +kernel
theorem dX6_wet_14 : decode cX6_wet 14 = .ok (.if_icmp .eq 23, 3) := by decide +kernel
theorem dX6_wet_17 : decode cX6_wet 17 = .ok (.iload_n 3, 1) := by decide +kernel
theorem dX6_wet_18 : decode cX6_wet 18 = .ok (.iconst 0, 1) := by decide +kernel
theorem dX6_wet_19 : decode cX6_wet 19 = .ok (.bipush 99, 2) := by decide +kernel
theorem dX6_wet_21 : decode cX6_wet 21 = .ok (.invokestatic 68, 3) := by decide +kernel
theorem dX6_wet_24 : decode cX6_wet 24 = .ok (.ifCond .eq 13, 3) := by decide +kernel
theorem dX6_wet_27 : decode cX6_wet 27 = .ok (.iload 4, 2) := by decide +kernel
theorem dX6_wet_29 : decode cX6_wet 29 = .ok (.iconst 0, 1) := by decide +kernel
theorem dX6_wet_30 : decode cX6_wet 30 = .ok (.iconst 2, 1) := by decide +kernel
theorem dX6_wet_31 : decode cX6_wet 31 = .ok (.invokestatic 68, 3) := by decide +kernel
theorem dX6_wet_34 : decode cX6_wet 34 = .ok (.ifCond .ne 6, 3) := by decide +kernel
theorem dX6_wet_37 : decode cX6_wet 37 = .ok (.bipush (-2), 2) := by decide +kernel
theorem dX6_wet_39 : decode cX6_wet 39 = .ok (.ireturn, 1) := by decide +kernel
theorem dX6_wet_40 : decode cX6_wet 40 = .ok (.aload_n 0, 1) := by decide +kernel
theorem dX6_wet_41 : decode cX6_wet 41 = .ok (.getfield 19, 3) := by decide +kernel
theorem dX6_wet_44 : decode cX6_wet 44 = .ok (.invokevirtual 164, 3) := by decide +kernel
theorem dX6_wet_47 : decode cX6_wet 47 = .ok (.aload_n 0, 1) := by decide +kernel
theorem dX6_wet_48 : decode cX6_wet 48 = .ok (.getfield 19, 3) := by decide +kernel
theorem dX6_wet_51 : decode cX6_wet 51 = .ok (.aload_n 0, 1) := by decide +kernel
theorem dX6_wet_52 : decode cX6_wet 52 = .ok (.getfield 10, 3) := by decide +kernel
theorem dX6_wet_55 : decode cX6_wet 55 = .ok (.iload 5, 2) := by decide +kernel
theorem dX6_wet_57 : decode cX6_wet 57 = .ok (.iconst 0, 1) := by decide +kernel
theorem dX6_wet_58 : decode cX6_wet 58 = .ok (.iload_n 3, 1) := by decide +kernel
theorem dX6_wet_59 : decode cX6_wet 59 = .ok (.invokevirtual 167, 3) := by decide +kernel
theorem dX6_wet_62 : decode cX6_wet 62 = .ok (.iload 4, 2) := by decide +kernel
theorem dX6_wet_64 : decode cX6_wet 64 = .ok (.lookupswitch 49 #[(0, 28), (1, 36)], 28) := by decide +kernel
theorem dX6_wet_92 : decode cX6_wet 92 = .ok (.aload_n 0, 1) := by decide +kernel
theorem dX6_wet_93 : decode cX6_wet 93 = .ok (.getfield 19, 3) := by decide +kernel
theorem dX6_wet_96 : decode cX6_wet 96 = .ok (.getfield 171, 3) := by decide +kernel
theorem dX6_wet_99 : decode cX6_wet 99 = .ok (.ireturn, 1) := by decide +kernel
theorem dX6_wet_100 : decode cX6_wet 100 = .ok (.aload_n 0, 1) := by decide +kernel
theorem dX6_wet_101 : decode cX6_wet 101 = .ok (.getfield 19, 3) := by decide +kernel
theorem dX6_wet_104 : decode cX6_wet 104 = .ok (.aload_n 0, 1) := by decide +kernel
theorem dX6_wet_105 : decode cX6_wet 105 = .ok (.getfield 10, 3) := by decide +kernel
theorem dX6_wet_108 : decode cX6_wet 108 = .ok (.iload_n 3, 1) := by decide +kernel
theorem dX6_wet_109 : decode cX6_wet 109 = .ok (.invokevirtual 174, 3) := by decide +kernel
theorem dX6_wet_112 : decode cX6_wet 112 = .ok (.ireturn, 1) := by decide +kernel
theorem dX6_wet_113 : decode cX6_wet 113 = .ok (.aload_n 0, 1) := by decide +kernel
theorem dX6_wet_114 : decode cX6_wet 114 = .ok (.getfield 19, 3) := by decide +kernel
theorem dX6_wet_117 : decode cX6_wet 117 = .ok (.aload_n 0, 1) := by decide +kernel
theorem dX6_wet_118 : decode cX6_wet 118 = .ok (.getfield 10, 3) := by decide +kernel
theorem dX6_wet_121 : decode cX6_wet 121 = .ok (.iconst 0, 1) := by decide +kernel
theorem dX6_wet_122 : decode cX6_wet 122 = .ok (.iload_n 3, 1) := by decide +kernel
theorem dX6_wet_123 : decode cX6_wet 123 = .ok (.invokevirtual 178, 3) := by decide +kernel
theorem dX6_wet_126 : decode cX6_wet 126 = .ok (.invokestatic 144, 3) := by decide +kernel
theorem dX6_wet_129 : decode cX6_wet 129 = .ok (.ireturn, 1) := by decide +kernel
theorem dX6_count_0 : decode cX6_count 0 = .ok (.iload_n 1, 1) := by decide +kernel
theorem dX6_count_1 : decode cX6_count 1 = .ok (.tableswitch 213 0 12 #[67, 75, 83, 89, 97, 109, 117, 132, 147, 159, 164, 169, 177], 67) := by decide +kernel
theorem dX6_count_68 : decode cX6_count 68 = .ok (.aload_n 0, 1) := by decide +kernel
theorem dX6_count_69 : decode cX6_count 69 = .ok (.getfield 10, 3) := by decide +kernel
theorem dX6_count_72 : decode cX6_count 72 = .ok (.getfield 181, 3) := by decide +kernel
theorem dX6_count_75 : decode cX6_count 75 = .ok (.ireturn, 1) := by decide +kernel
theorem dX6_count_76 : decode cX6_count 76 = .ok (.aload_n 0, 1) := by decide +kernel
theorem dX6_count_77 : decode cX6_count 77 = .ok (.getfield 10, 3) := by decide +kernel
theorem dX6_count_80 : decode cX6_count 80 = .ok (.getfield 184, 3) := by decide +kernel
theorem dX6_count_83 : decode cX6_count 83 = .ok (.ireturn, 1) := by decide +kernel
theorem dX6_count_84 : decode cX6_count 84 = .ok (.aload_n 0, 1) := by decide +kernel
theorem dX6_count_85 : decode cX6_count 85 = .ok (.iconst 0, 1) := by decide +kernel
theorem dX6_count_86 : decode cX6_count 86 = .ok (.invokevirtual 106, 3) := by decide +kernel
theorem dX6_count_89 : decode cX6_count 89 = .ok (.ireturn, 1) := by decide +kernel
theorem dX6_count_90 : decode cX6_count 90 = .ok (.aload_n 0, 1) := by decide +kernel
theorem dX6_count_91 : decode cX6_count 91 = .ok (.getfield 10, 3) := by decide +kernel
theorem dX6_count_94 : decode cX6_count 94 = .ok (.invokevirtual 187, 3) := by decide +kernel
theorem dX6_count_97 : decode cX6_count 97 = .ok (.ireturn, 1) := by decide +kernel
theorem dX6_count_98 : decode cX6_count 98 = .ok (.aload_n 0, 1) := by decide +kernel
theorem dX6_count_99 : decode cX6_count 99 = .ok (.invokevirtual 110, 3) := by decide +kernel
theorem dX6_count_102 : decode cX6_count 102 = .ok (.aload_n 0, 1) := by decide +kernel
theorem dX6_count_103 : decode cX6_count 103 = .ok (.getfield 10, 3) := by decide +kernel
theorem dX6_count_106 : decode cX6_count 106 = .ok (.invokevirtual 190, 3) := by decide +kernel
theorem dX6_count_109 : decode cX6_count 109 = .ok (.ireturn, 1) := by decide +kernel
theorem dX6_count_110 : decode cX6_count 110 = .ok (.aload_n 0, 1) := by decide +kernel
theorem dX6_count_111 : decode cX6_count 111 = .ok (.invokevirtual 123, 3) := by decide +kernel
theorem dX6_count_114 : decode cX6_count 114 = .ok (.invokevirtual 194, 3) := by decide +kernel
theorem dX6_count_117 : decode cX6_count 117 = .ok (.ireturn, 1) := by decide +kernel
theorem dX6_count_118 : decode cX6_count 118 = .ok (.aload_n 0, 1) := by decide +kernel
theorem dX6_count_119 : decode cX6_count 119 = .ok (.getfield 10, 3) := by decide +kernel
theorem dX6_count_122 : decode cX6_count 122 = .ok (.aload_n 0, 1) := by decide +kernel
theorem dX6_count_123 : decode cX6_count 123 = .ok (.invokevirtual 110, 3) := by decide +kernel
theorem dX6_count_126 : decode cX6_count 126 = .ok (.getfield 114, 3) := by decide +kernel
theorem dX6_count_129 : decode cX6_count 129 = .ok (.invokevirtual 196, 3) := by decide +kernel
theorem dX6_count_132 : decode cX6_count 132 = .ok (.ireturn, 1) := by decide +kernel
theorem dX6_count_133 : decode cX6_count 133 = .ok (.aload_n 0, 1) := by decide +kernel
theorem dX6_count_134 : decode cX6_count 134 = .ok (.getfield 10, 3) := by decide +kernel
theorem dX6_count_137 : decode cX6_count 137 = .ok (.aload_n 0, 1) := by decide +kernel
theorem dX6_count_138 : decode cX6_count 138 = .ok (.invokevirtual 123, 3) := by decide +kernel
theorem dX6_count_141 : decode cX6_count 141 = .ok (.getfield 127, 3) := by decide +kernel
theorem dX6_count_144 : decode cX6_count 144 = .ok (.invokevirtual 196, 3) := by decide +kernel
theorem dX6_count_147 : decode cX6_count 147 = .ok (.ireturn, 1) := by decide +kernel
theorem dX6_count_148 : decode cX6_count 148 = .ok (.aload_n 0, 1) := by decide +kernel
theorem dX6_count_149 : decode cX6_count 149 = .ok (.invokevirtual 110, 3) := by decide +kernel
theorem dX6_count_152 : decode cX6_count 152 = .ok (.aload_n 0, 1) := by decide +kernel
theorem dX6_count_153 : decode cX6_count 153 = .ok (.getfield 10, 3) := by decide +kernel
theorem dX6_count_156 : decode cX6_count 156 = .ok (.invokevirtual 200, 3) := by decide +kernel
theorem dX6_count_159 : decode cX6_count 159 = .ok (.ireturn, 1) := by decide +kernel
theorem dX6_count_160 : decode cX6_count 160 = .ok (.aload_n 0, 1) := by decide +kernel
theorem dX6_count_161 : decode cX6_count 161 = .ok (.getfield 47, 3) := by decide +kernel
theorem dX6_count_164 : decode cX6_count 164 = .ok (.ireturn, 1) := by decide +kernel
theorem dX6_count_165 : decode cX6_count 165 = .ok (.aload_n 0, 1) := by decide +kernel
theorem dX6_count_166 : decode cX6_count 166 = .ok (.getfield 51, 3) := by decide +kernel
theorem dX6_count_169 : decode cX6_count 169 = .ok (.ireturn, 1) := by decide +kernel
theorem dX6_count_170 : decode cX6_count 170 = .ok (.aload_n 0, 1) := by decide +kernel
theorem dX6_count_171 : decode cX6_count 171 = .ok (.invokevirtual 158, 3) := by decide +kernel
theorem dX6_count_174 : decode cX6_count 174 = .ok (.getfield 128, 3) := by decide +kernel
theorem dX6_count_177 : decode cX6_count 177 = .ok (.ireturn, 1) := by decide +kernel
theorem dX6_count_178 : decode cX6_count 178 = .ok (.aload_n 0, 1) := by decide +kernel
theorem dX6_count_179 : decode cX6_count 179 = .ok (.getfield 43, 3) := by decide +kernel
theorem dX6_count_182 : decode cX6_count 182 = .ok (.iconst 0, 1) := by decide +kernel
theorem dX6_count_183 : decode cX6_count 183 = .ok (.aaload, 1) := by decide +kernel
theorem dX6_count_184 : decode cX6_count 184 = .ok (.getfield 203, 3) := by decide +kernel
theorem dX6_count_187 : decode cX6_count 187 = .ok (.ifCond .eq 7, 3) := by decide +kernel
theorem dX6_count_190 : decode cX6_count 190 = .ok (.iconst 1, 1) := by decide +kernel
theorem dX6_count_191 : decode cX6_count 191 = .ok (.goto 4, 3) := by decide +kernel
theorem dX6_count_194 : decode cX6_count 194 = .ok (.iconst 0, 1) := by decide +kernel
theorem dX6_count_195 : decode cX6_count 195 = .ok (.aload_n 0, 1) := by decide +kernel
theorem dX6_count_196 : decode cX6_count 196 = .ok (.getfield 43, 3) := by decide +kernel
theorem dX6_count_199 : decode cX6_count 199 = .ok (.iconst 1, 1) := by decide +kernel
theorem dX6_count_200 : decode cX6_count 200 = .ok (.aaload, 1) := by decide +kernel
theorem dX6_count_201 : decode cX6_count 201 = .ok (.getfield 203, 3) := by decide +kernel
theorem dX6_count_204 : decode cX6_count 204 = .ok (.ifCond .eq 7, 3) := by decide +kernel
theorem dX6_count_207 : decode cX6_count 207 = .ok (.iconst 2, 1) := by decide +kernel
theorem dX6_count_208 : decode cX6_count 208 = .ok (.goto 4, 3) := by decide +kernel
theorem dX6_count_211 : decode cX6_count 211 = .ok (.iconst 0, 1) := by decide +kernel
theorem dX6_count_212 : decode cX6_count 212 = .ok (.iadd, 1) := by decide +kernel
theorem dX6_count_213 : decode cX6_count 213 = .ok (.ireturn, 1) := by decide +kernel
theorem dX6_count_214 : decode cX6_count 214 = .ok (.bipush (-2), 2) := by decide +kernel
theorem dX6_count_216 : decode cX6_count 216 = .ok (.ireturn, 1) := by decide +kernel
theorem dX6_image_0 : decode cX6_image 0 = .ok (.iload_n 1, 1) := by decide +kernel
theorem dX6_image_1 : decode cX6_image 1 = .ok (.iconst 0, 1) := by decide +kernel
theorem dX6_image_2 : decode cX6_image 2 = .ok (.iconst 1, 1) := by decide +kernel
theorem dX6_image_3 : decode cX6_image 3 = .ok (.invokestatic 68, 3) := by decide +kernel
theorem dX6_image_6 : decode cX6_image 6 = .ok (.ifCond .ne 6, 3) := by decide +kernel
theorem dX6_image_9 : decode cX6_image 9 = .ok (.bipush (-2), 2) := by decide +kernel
theorem dX6_image_11 : decode cX6_image 11 = .ok (.ireturn, 1) := by decide +kernel
theorem dX6_image_12 : decode cX6_image 12 = .ok (.aload_n 0, 1) := by decide +kernel
theorem dX6_image_13 : decode cX6_image 13 = .ok (.getfield 43, 3) := by decide +kernel
theorem dX6_image_16 : decode cX6_image 16 = .ok (.iload_n 1, 1) := by decide +kernel
theorem dX6_image_17 : decode cX6_image 17 = .ok (.aaload, 1) := by decide +kernel
theorem dX6_image_18 : decode cX6_image 18 = .ok (.aload_n 0, 1) := by decide +kernel
theorem dX6_image_19 : decode cX6_image 19 = .ok (.getfield 10, 3) := by decide +kernel
theorem dX6_image_22 : decode cX6_image 22 = .ok (.aload_n 0, 1) := by decide +kernel
theorem dX6_image_23 : decode cX6_image 23 = .ok (.getfield 47, 3) := by decide +kernel
theorem dX6_image_26 : decode cX6_image 26 = .ok (.aload_n 0, 1) := by decide +kernel
theorem dX6_image_27 : decode cX6_image 27 = .ok (.getfield 51, 3) := by decide +kernel
theorem dX6_image_30 : decode cX6_image 30 = .ok (.invokevirtual 206, 3) := by decide +kernel
theorem dX6_image_33 : decode cX6_image 33 = .ok (.iconst 1, 1) := by decide +kernel
theorem dX6_image_34 : decode cX6_image 34 = .ok (.ireturn, 1) := by decide +kernel
theorem dX6_restore_0 : decode cX6_restore 0 = .ok (.iload_n 1, 1) := by decide +kernel
theorem dX6_restore_1 : decode cX6_restore 1 = .ok (.iconst 0, 1) := by decide +kernel
theorem dX6_restore_2 : decode cX6_restore 2 = .ok (.iconst 1, 1) := by decide +kernel
theorem dX6_restore_3 : decode cX6_restore 3 = .ok (.invokestatic 68, 3) := by decide +kernel
theorem dX6_restore_6 : decode cX6_restore 6 = .ok (.ifCond .ne 6, 3) := by decide +kernel
theorem dX6_restore_9 : decode cX6_restore 9 = .ok (.bipush (-2), 2) := by decide +kernel
theorem dX6_restore_11 : decode cX6_restore 11 = .ok (.ireturn, 1) := by decide +kernel
theorem dX6_restore_12 : decode cX6_restore 12 = .ok (.aload_n 0, 1) := by decide +kernel
theorem dX6_restore_13 : decode cX6_restore 13 = .ok (.getfield 43, 3) := by decide +kernel
theorem dX6_restore_16 : decode cX6_restore 16 = .ok (.iload_n 1, 1) := by decide +kernel
theorem dX6_restore_17 : decode cX6_restore 17 = .ok (.aaload, 1) := by decide +kernel
theorem dX6_restore_18 : decode cX6_restore 18 = .ok (.astore_n 2, 1) := by decide +kernel
theorem dX6_restore_19 : decode cX6_restore 19 = .ok (.aload_n 2, 1) := by decide +kernel
theorem dX6_restore_20 : decode cX6_restore 20 = .ok (.getfield 203, 3) := by decide +kernel
theorem dX6_restore_23 : decode cX6_restore 23 = .ok (.ifCond .ne 6, 3) := by decide +kernel
theorem dX6_restore_26 : decode cX6_restore 26 = .ok (.bipush (-3), 2) := by decide +kernel
theorem dX6_restore_28 : decode cX6_restore 28 = .ok (.ireturn, 1) := by decide +kernel
theorem dX6_restore_29 : decode cX6_restore 29 = .ok (.aload_n 2, 1) := by decide +kernel
theorem dX6_restore_30 : decode cX6_restore 30 = .ok (.aload_n 0, 1) := by decide +kernel
theorem dX6_restore_31 : decode cX6_restore 31 = .ok (.getfield 10, 3) := by decide +kernel
theorem dX6_restore_34 : decode cX6_restore 34 = .ok (.invokevirtual 210, 3) := by decide +kernel
theorem dX6_restore_37 : decode cX6_restore 37 = .ok (.aload_n 0, 1) := by decide +kernel
theorem dX6_restore_38 : decode cX6_restore 38 = .ok (.aload_n 2, 1) := by decide +kernel
theorem dX6_restore_39 : decode cX6_restore 39 = .ok (.getfield 214, 3) := by decide +kernel
theorem dX6_restore_42 : decode cX6_restore 42 = .ok (.putfield 47, 3) := by decide +kernel
theorem dX6_restore_45 : decode cX6_restore 45 = .ok (.aload_n 0, 1) := by decide +kernel
theorem dX6_restore_46 : decode cX6_restore 46 = .ok (.aload_n 2, 1) := by decide +kernel
theorem dX6_restore_47 : decode cX6_restore 47 = .ok (.getfield 217, 3) := by decide +kernel
theorem dX6_restore_50 : decode cX6_restore 50 = .ok (.putfield 51, 3) := by decide +kernel
theorem dX6_restore_53 : decode cX6_restore 53 = .ok (.aload_n 0, 1) := by decide +kernel
theorem dX6_restore_54 : decode cX6_restore 54 = .ok (.invokevirtual 97, 3) := by decide +kernel
theorem dX6_restore_57 : decode cX6_restore 57 = .ok (.iconst 1, 1) := by decide +kernel
theorem dX6_restore_58 : decode cX6_restore 58 = .ok (.ireturn, 1) := by decide +kernel
theorem dX6_within_0 : decode cX6_within 0 = .ok (.iload_n 0, 1) := by decide +kernel
theorem dX6_within_1 : decode cX6_within 1 = .ok (.iload_n 1, 1) := by decide +kernel
theorem dX6_within_2 : decode cX6_within 2 = .ok (.if_icmp .lt 12, 3) := by decide +kernel
theorem dX6_within_5 : decode cX6_within 5 = .ok (.iload_n 0, 1) := by decide +kernel
theorem dX6_within_6 : decode cX6_within 6 = .ok (.iload_n 2, 1) := by decide +kernel
theorem dX6_within_7 : decode cX6_within 7 = .ok (.if_icmp .gt 7, 3) := by decide +kernel
theorem dX6_within_10 : decode cX6_within 10 = .ok (.iconst 1, 1) := by decide +kernel
theorem dX6_within_11 : decode cX6_within 11 = .ok (.goto 4, 3) := by decide +kernel
theorem dX6_within_14 : decode cX6_within 14 = .ok (.iconst 0, 1) := by decide +kernel
theorem dX6_within_15 : decode cX6_within 15 = .ok (.ireturn, 1) := by decide +kernel
theorem dX6_heightOrNone_0 : decode cX6_heightOrNone 0 = .ok (.iload_n 0, 1) := by decide +kernel
theorem dX6_heightOrNone_1 : decode cX6_heightOrNone 1 = .ok (.bipush 100, 2) := by decide +kernel
theorem dX6_heightOrNone_3 : decode cX6_heightOrNone 3 = .ok (.if_icmp .ne 8, 3) := by decide +kernel
theorem dX6_heightOrNone_6 : decode cX6_heightOrNone 6 = .ok (.bipush (-6), 2) := by decide +kernel
theorem dX6_heightOrNone_8 : decode cX6_heightOrNone 8 = .ok (.goto 4, 3) := by decide +kernel
theorem dX6_heightOrNone_11 : decode cX6_heightOrNone 11 = .ok (.iload_n 0, 1) := by decide +kernel
theorem dX6_heightOrNone_12 : decode cX6_heightOrNone 12 = .ok (.ireturn, 1) := by decide +kernel
theorem dX6_pitsAfterChange_0 : decode cX6_pitsAfterChange 0 = .ok (.aload_n 0, 1) := by decide +kernel
theorem dX6_pitsAfterChange_1 : decode cX6_pitsAfterChange 1 = .ok (.invokevirtual 97, 3) := by decide +kernel
theorem dX6_pitsAfterChange_4 : decode cX6_pitsAfterChange 4 = .ok (.aload_n 0, 1) := by decide +kernel
theorem dX6_pitsAfterChange_5 : decode cX6_pitsAfterChange 5 = .ok (.iconst 0, 1) := by decide +kernel
theorem dX6_pitsAfterChange_6 : decode cX6_pitsAfterChange 6 = .ok (.invokevirtual 106, 3) := by decide +kernel
theorem dX6_pitsAfterChange_9 : decode cX6_pitsAfterChange 9 = .ok (.ireturn, 1) := by decide +kernel
theorem dX6_nothingStands_0 : decode cX6_nothingStands 0 = .ok (.aload_n 0, 1) := by decide +kernel
theorem dX6_nothingStands_1 : decode cX6_nothingStands 1 = .ok (.iconst 0, 1) := by decide +kernel
theorem dX6_nothingStands_2 : decode cX6_nothingStands 2 = .ok (.putfield 54, 3) := by decide +kernel
theorem dX6_nothingStands_5 : decode cX6_nothingStands 5 = .ok (.aload_n 0, 1) := by decide +kernel
theorem dX6_nothingStands_6 : decode cX6_nothingStands 6 = .ok (.iconst 0, 1) := by decide +kernel
theorem dX6_nothingStands_7 : decode cX6_nothingStands 7 = .ok (.putfield 58, 3) := by decide +kernel
theorem dX6_nothingStands_10 : decode cX6_nothingStands 10 = .ok (.aload_n 0, 1) := by decide +kernel
theorem dX6_nothingStands_11 : decode cX6_nothingStands 11 = .ok (.iconst 0, 1) := by decide +kernel
theorem dX6_nothingStands_12 : decode cX6_nothingStands 12 = .ok (.putfield 61, 3) := by decide +kernel
theorem dX6_nothingStands_15 : decode cX6_nothingStands 15 = .ok (.return_, 1) := by decide +kernel
theorem dX6_standingFlood_0 : decode cX6_standingFlood 0 = .ok (.aload_n 0, 1) := by decide +kernel
theorem dX6_standingFlood_1 : decode cX6_standingFlood 1 = .ok (.getfield 54, 3) := by decide +kernel
theorem dX6_standingFlood_4 : decode cX6_standingFlood 4 = .ok (.ifCond .ne 19, 3) := by decide +kernel
theorem dX6_standingFlood_7 : decode cX6_standingFlood 7 = .ok (.aload_n 0, 1) := by decide +kernel
theorem dX6_standingFlood_8 : decode cX6_standingFlood 8 = .ok (.getfield 26, 3) := by decide +kernel
theorem dX6_standingFlood_11 : decode cX6_standingFlood 11 = .ok (.aload_n 0, 1) := by decide +kernel
theorem dX6_standingFlood_12 : decode cX6_standingFlood 12 = .ok (.getfield 10, 3) := by decide +kernel
theorem dX6_standingFlood_15 : decode cX6_standingFlood 15 = .ok (.invokevirtual 220, 3) := by decide +kernel
theorem dX6_standingFlood_18 : decode cX6_standingFlood 18 = .ok (.aload_n 0, 1) := by decide +kernel
theorem dX6_standingFlood_19 : decode cX6_standingFlood 19 = .ok (.iconst 1, 1) := by decide +kernel
theorem dX6_standingFlood_20 : decode cX6_standingFlood 20 = .ok (.putfield 54, 3) := by decide +kernel
theorem dX6_standingFlood_23 : decode cX6_standingFlood 23 = .ok (.aload_n 0, 1) := by decide +kernel
theorem dX6_standingFlood_24 : decode cX6_standingFlood 24 = .ok (.getfield 26, 3) := by decide +kernel
theorem dX6_standingFlood_27 : decode cX6_standingFlood 27 = .ok (.areturn, 1) := by decide +kernel
theorem dX6_standingPour_0 : decode cX6_standingPour 0 = .ok (.aload_n 0, 1) := by decide +kernel
theorem dX6_standingPour_1 : decode cX6_standingPour 1 = .ok (.getfield 58, 3) := by decide +kernel
theorem dX6_standingPour_4 : decode cX6_standingPour 4 = .ok (.ifCond .ne 34, 3) := by decide +kernel
theorem dX6_standingPour_7 : decode cX6_standingPour 7 = .ok (.aload_n 0, 1) := by decide +kernel
theorem dX6_standingPour_8 : decode cX6_standingPour 8 = .ok (.getfield 33, 3) := by decide +kernel
theorem dX6_standingPour_11 : decode cX6_standingPour 11 = .ok (.aload_n 0, 1) := by decide +kernel
theorem dX6_standingPour_12 : decode cX6_standingPour 12 = .ok (.getfield 10, 3) := by decide +kernel
theorem dX6_standingPour_15 : decode cX6_standingPour 15 = .ok (.aload_n 0, 1) := by decide +kernel
theorem dX6_standingPour_16 : decode cX6_standingPour 16 = .ok (.invokevirtual 110, 3) := by decide +kernel
theorem dX6_standingPour_19 : decode cX6_standingPour 19 = .ok (.getfield 114, 3) := by decide +kernel
theorem dX6_standingPour_22 : decode cX6_standingPour 22 = .ok (.aload_n 0, 1) := by decide +kernel
theorem dX6_standingPour_23 : decode cX6_standingPour 23 = .ok (.getfield 47, 3) := by decide +kernel
theorem dX6_standingPour_26 : decode cX6_standingPour 26 = .ok (.aload_n 0, 1) := by decide +kernel
theorem dX6_standingPour_27 : decode cX6_standingPour 27 = .ok (.getfield 51, 3) := by decide +kernel
theorem dX6_standingPour_30 : decode cX6_standingPour 30 = .ok (.invokevirtual 223, 3) := by decide +kernel
theorem dX6_standingPour_33 : decode cX6_standingPour 33 = .ok (.aload_n 0, 1) := by decide +kernel
theorem dX6_standingPour_34 : decode cX6_standingPour 34 = .ok (.iconst 1, 1) := by decide +kernel
theorem dX6_standingPour_35 : decode cX6_standingPour 35 = .ok (.putfield 58, 3) := by decide +kernel
theorem dX6_standingPour_38 : decode cX6_standingPour 38 = .ok (.aload_n 0, 1) := by decide +kernel
theorem dX6_standingPour_39 : decode cX6_standingPour 39 = .ok (.getfield 33, 3) := by decide +kernel
theorem dX6_standingPour_42 : decode cX6_standingPour 42 = .ok (.areturn, 1) := by decide +kernel
theorem dX6_standingTree_0 : decode cX6_standingTree 0 = .ok (.aload_n 0, 1) := by decide +kernel
theorem dX6_standingTree_1 : decode cX6_standingTree 1 = .ok (.getfield 61, 3) := by decide +kernel
theorem dX6_standingTree_4 : decode cX6_standingTree 4 = .ok (.ifCond .ne 30, 3) := by decide +kernel
theorem dX6_standingTree_7 : decode cX6_standingTree 7 = .ok (.aload_n 0, 1) := by decide +kernel
theorem dX6_standingTree_8 : decode cX6_standingTree 8 = .ok (.getfield 37, 3) := by decide +kernel
theorem dX6_standingTree_11 : decode cX6_standingTree 11 = .ok (.aload_n 0, 1) := by decide +kernel
theorem dX6_standingTree_12 : decode cX6_standingTree 12 = .ok (.getfield 10, 3) := by decide +kernel
theorem dX6_standingTree_15 : decode cX6_standingTree 15 = .ok (.aload_n 0, 1) := by decide +kernel
theorem dX6_standingTree_16 : decode cX6_standingTree 16 = .ok (.invokevirtual 110, 3) := by decide +kernel
theorem dX6_standingTree_19 : decode cX6_standingTree 19 = .ok (.getfield 114, 3) := by decide +kernel
theorem dX6_standingTree_22 : decode cX6_standingTree 22 = .ok (.iconst 0, 1) := by decide +kernel
theorem dX6_standingTree_23 : decode cX6_standingTree 23 = .ok (.sipush 145, 3) := by decide +kernel
theorem dX6_standingTree_26 : decode cX6_standingTree 26 = .ok (.invokevirtual 223, 3) := by decide +kernel
theorem dX6_standingTree_29 : decode cX6_standingTree 29 = .ok (.aload_n 0, 1) := by decide +kernel
theorem dX6_standingTree_30 : decode cX6_standingTree 30 = .ok (.iconst 1, 1) := by decide +kernel
theorem dX6_standingTree_31 : decode cX6_standingTree 31 = .ok (.putfield 61, 3) := by decide +kernel
theorem dX6_standingTree_34 : decode cX6_standingTree 34 = .ok (.aload_n 0, 1) := by decide +kernel
theorem dX6_standingTree_35 : decode cX6_standingTree 35 = .ok (.getfield 37, 3) := by decide +kernel
theorem dX6_standingTree_38 : decode cX6_standingTree 38 = .ok (.areturn, 1) := by decide +kernel
theorem dX6_findPits_0 : decode cX6_findPits 0 = .ok (.iconst 0, 1) := by decide +kernel
theorem dX6_findPits_1 : decode cX6_findPits 1 = .ok (.istore_n 2, 1) := by decide +kernel
theorem dX6_findPits_2 : decode cX6_findPits 2 = .ok (.aload_n 0, 1) := by decide +kernel
theorem dX6_findPits_3 : decode cX6_findPits 3 = .ok (.getfield 19, 3) := by decide +kernel
theorem dX6_findPits_6 : decode cX6_findPits 6 = .ok (.invokevirtual 164, 3) := by decide +kernel
theorem dX6_findPits_9 : decode cX6_findPits 9 = .ok (.iconst 0, 1) := by decide +kernel
theorem dX6_findPits_10 : decode cX6_findPits 10 = .ok (.istore_n 3, 1) := by decide +kernel
theorem dX6_findPits_11 : decode cX6_findPits 11 = .ok (.iload_n 3, 1) := by decide +kernel
theorem dX6_findPits_12 : decode cX6_findPits 12 = .ok (.aload_n 0, 1) := by decide +kernel
theorem dX6_findPits_13 : decode cX6_findPits 13 = .ok (.getfield 10, 3) := by decide +kernel
theorem dX6_findPits_16 : decode cX6_findPits 16 = .ok (.getfield 227, 3) := by decide +kernel
theorem dX6_findPits_19 : decode cX6_findPits 19 = .ok (.if_icmp .ge 92, 3) := by decide +kernel
theorem dX6_findPits_22 : decode cX6_findPits 22 = .ok (.aload_n 0, 1) := by decide +kernel
theorem dX6_findPits_23 : decode cX6_findPits 23 = .ok (.getfield 19, 3) := by decide +kernel
theorem dX6_findPits_26 : decode cX6_findPits 26 = .ok (.iload_n 3, 1) := by decide +kernel
theorem dX6_findPits_27 : decode cX6_findPits 27 = .ok (.invokevirtual 230, 3) := by decide +kernel
theorem dX6_findPits_30 : decode cX6_findPits 30 = .ok (.ifCond .eq 6, 3) := by decide +kernel
theorem dX6_findPits_33 : decode cX6_findPits 33 = .ok (.goto 72, 3) := by decide +kernel
theorem dX6_findPits_36 : decode cX6_findPits 36 = .ok (.aload_n 0, 1) := by decide +kernel
theorem dX6_findPits_37 : decode cX6_findPits 37 = .ok (.getfield 10, 3) := by decide +kernel
theorem dX6_findPits_40 : decode cX6_findPits 40 = .ok (.getfield 90, 3) := by decide +kernel
theorem dX6_findPits_43 : decode cX6_findPits 43 = .ok (.iload_n 3, 1) := by decide +kernel
theorem dX6_findPits_44 : decode cX6_findPits 44 = .ok (.iaload, 1) := by decide +kernel
theorem dX6_findPits_45 : decode cX6_findPits 45 = .ok (.istore 4, 2) := by decide +kernel
theorem dX6_findPits_47 : decode cX6_findPits 47 = .ok (.aload_n 0, 1) := by decide +kernel
theorem dX6_findPits_48 : decode cX6_findPits 48 = .ok (.getfield 19, 3) := by decide +kernel
theorem dX6_findPits_51 : decode cX6_findPits 51 = .ok (.aload_n 0, 1) := by decide +kernel
theorem dX6_findPits_52 : decode cX6_findPits 52 = .ok (.getfield 10, 3) := by decide +kernel
theorem dX6_findPits_55 : decode cX6_findPits 55 = .ok (.iload_n 3, 1) := by decide +kernel
theorem dX6_findPits_56 : decode cX6_findPits 56 = .ok (.iload 4, 2) := by decide +kernel
theorem dX6_findPits_58 : decode cX6_findPits 58 = .ok (.iload 4, 2) := by decide +kernel
theorem dX6_findPits_60 : decode cX6_findPits 60 = .ok (.invokevirtual 167, 3) := by decide +kernel
theorem dX6_findPits_63 : decode cX6_findPits 63 = .ok (.aload_n 0, 1) := by decide +kernel
theorem dX6_findPits_64 : decode cX6_findPits 64 = .ok (.getfield 19, 3) := by decide +kernel
theorem dX6_findPits_67 : decode cX6_findPits 67 = .ok (.aload_n 0, 1) := by decide +kernel
theorem dX6_findPits_68 : decode cX6_findPits 68 = .ok (.getfield 10, 3) := by decide +kernel
theorem dX6_findPits_71 : decode cX6_findPits 71 = .ok (.iload 4, 2) := by decide +kernel
theorem dX6_findPits_73 : decode cX6_findPits 73 = .ok (.iload 4, 2) := by decide +kernel
theorem dX6_findPits_75 : decode cX6_findPits 75 = .ok (.invokevirtual 178, 3) := by decide +kernel
theorem dX6_findPits_78 : decode cX6_findPits 78 = .ok (.iload 4, 2) := by decide +kernel
theorem dX6_findPits_80 : decode cX6_findPits 80 = .ok (.if_icmp .ge 6, 3) := by decide +kernel
theorem dX6_findPits_83 : decode cX6_findPits 83 = .ok (.goto 22, 3) := by decide +kernel
theorem dX6_findPits_86 : decode cX6_findPits 86 = .ok (.iinc 2 1, 3) := by decide +kernel
theorem dX6_findPits_89 : decode cX6_findPits 89 = .ok (.iload_n 1, 1) := by decide +kernel
theorem dX6_findPits_90 : decode cX6_findPits 90 = .ok (.ifCond .eq 15, 3) := by decide +kernel
theorem dX6_findPits_93 : decode cX6_findPits 93 = .ok (.aload_n 0, 1) := by decide +kernel
theorem dX6_findPits_94 : decode cX6_findPits 94 = .ok (.getfield 19, 3) := by decide +kernel
theorem dX6_findPits_97 : decode cX6_findPits 97 = .ok (.aload_n 0, 1) := by decide +kernel
theorem dX6_findPits_98 : decode cX6_findPits 98 = .ok (.getfield 10, 3) := by decide +kernel
theorem dX6_findPits_101 : decode cX6_findPits 101 = .ok (.iload_n 2, 1) := by decide +kernel
theorem dX6_findPits_102 : decode cX6_findPits 102 = .ok (.invokevirtual 233, 3) := by decide +kernel
theorem dX6_findPits_105 : decode cX6_findPits 105 = .ok (.iinc 3 1, 3) := by decide +kernel
theorem dX6_findPits_108 : decode cX6_findPits 108 = .ok (.goto (-97), 3) := by decide +kernel
theorem dX6_findPits_111 : decode cX6_findPits 111 = .ok (.iload_n 2, 1) := by decide +kernel
theorem dX6_findPits_112 : decode cX6_findPits 112 = .ok (.ireturn, 1) := by decide +kernel
theorem dX6_leastLevelBetween_0 : decode cX6_leastLevelBetween 0 = .ok (.aload_n 0, 1) := by decide +kernel
theorem dX6_leastLevelBetween_1 : decode cX6_leastLevelBetween 1 = .ok (.getfield 10, 3) := by decide +kernel
theorem dX6_leastLevelBetween_4 : decode cX6_leastLevelBetween 4 = .ok (.getfield 90, 3) := by decide +kernel
theorem dX6_leastLevelBetween_7 : decode cX6_leastLevelBetween 7 = .ok (.iload_n 1, 1) := by decide +kernel
theorem dX6_leastLevelBetween_8 : decode cX6_leastLevelBetween 8 = .ok (.iaload, 1) := by decide +kernel
theorem dX6_leastLevelBetween_9 : decode cX6_leastLevelBetween 9 = .ok (.aload_n 0, 1) := by decide +kernel
theorem dX6_leastLevelBetween_10 : decode cX6_leastLevelBetween 10 = .ok (.getfield 10, 3) := by decide +kernel
theorem dX6_leastLevelBetween_13 : decode cX6_leastLevelBetween 13 = .ok (.getfield 90, 3) := by decide +kernel
theorem dX6_leastLevelBetween_16 : decode cX6_leastLevelBetween 16 = .ok (.iload_n 2, 1) := by decide +kernel
theorem dX6_leastLevelBetween_17 : decode cX6_leastLevelBetween 17 = .ok (.iaload, 1) := by decide +kernel
theorem dX6_leastLevelBetween_18 : decode cX6_leastLevelBetween 18 = .ok (.invokestatic 237, 3) := by decide +kernel
theorem dX6_leastLevelBetween_21 : decode cX6_leastLevelBetween 21 = .ok (.istore_n 3, 1) := by decide +kernel
theorem dX6_leastLevelBetween_22 : decode cX6_leastLevelBetween 22 = .ok (.bipush 99, 2) := by decide +kernel
theorem dX6_leastLevelBetween_24 : decode cX6_leastLevelBetween 24 = .ok (.istore 4, 2) := by decide +kernel
theorem dX6_leastLevelBetween_26 : decode cX6_leastLevelBetween 26 = .ok (.iconst 0, 1) := by decide +kernel
theorem dX6_leastLevelBetween_27 : decode cX6_leastLevelBetween 27 = .ok (.istore 5, 2) := by decide +kernel
theorem dX6_leastLevelBetween_29 : decode cX6_leastLevelBetween 29 = .ok (.iload 5, 2) := by decide +kernel
theorem dX6_leastLevelBetween_31 : decode cX6_leastLevelBetween 31 = .ok (.bipush 7, 2) := by decide +kernel
theorem dX6_leastLevelBetween_33 : decode cX6_leastLevelBetween 33 = .ok (.if_icmp .ge 68, 3) := by decide +kernel
theorem dX6_leastLevelBetween_36 : decode cX6_leastLevelBetween 36 = .ok (.iload_n 3, 1) := by decide +kernel
theorem dX6_leastLevelBetween_37 : decode cX6_leastLevelBetween 37 = .ok (.iload 4, 2) := by decide +kernel
theorem dX6_leastLevelBetween_39 : decode cX6_leastLevelBetween 39 = .ok (.if_icmp .ge 62, 3) := by decide +kernel
theorem dX6_leastLevelBetween_42 : decode cX6_leastLevelBetween 42 = .ok (.iload_n 3, 1) := by decide +kernel
theorem dX6_leastLevelBetween_43 : decode cX6_leastLevelBetween 43 = .ok (.iload 4, 2) := by decide +kernel
theorem dX6_leastLevelBetween_45 : decode cX6_leastLevelBetween 45 = .ok (.iadd, 1) := by decide +kernel
theorem dX6_leastLevelBetween_46 : decode cX6_leastLevelBetween 46 = .ok (.iconst 2, 1) := by decide +kernel
theorem dX6_leastLevelBetween_47 : decode cX6_leastLevelBetween 47 = .ok (.idiv, 1) := by decide +kernel
theorem dX6_leastLevelBetween_48 : decode cX6_leastLevelBetween 48 = .ok (.istore 6, 2) := by decide +kernel
theorem dX6_leastLevelBetween_50 : decode cX6_leastLevelBetween 50 = .ok (.aload_n 0, 1) := by decide +kernel
theorem dX6_leastLevelBetween_51 : decode cX6_leastLevelBetween 51 = .ok (.getfield 19, 3) := by decide +kernel
theorem dX6_leastLevelBetween_54 : decode cX6_leastLevelBetween 54 = .ok (.invokevirtual 164, 3) := by decide +kernel
theorem dX6_leastLevelBetween_57 : decode cX6_leastLevelBetween 57 = .ok (.aload_n 0, 1) := by decide +kernel
theorem dX6_leastLevelBetween_58 : decode cX6_leastLevelBetween 58 = .ok (.getfield 19, 3) := by decide +kernel
theorem dX6_leastLevelBetween_61 : decode cX6_leastLevelBetween 61 = .ok (.aload_n 0, 1) := by decide +kernel
theorem dX6_leastLevelBetween_62 : decode cX6_leastLevelBetween 62 = .ok (.getfield 10, 3) := by decide +kernel
theorem dX6_leastLevelBetween_65 : decode cX6_leastLevelBetween 65 = .ok (.iload_n 1, 1) := by decide +kernel
theorem dX6_leastLevelBetween_66 : decode cX6_leastLevelBetween 66 = .ok (.iconst 0, 1) := by decide +kernel
theorem dX6_leastLevelBetween_67 : decode cX6_leastLevelBetween 67 = .ok (.iload 6, 2) := by decide +kernel
theorem dX6_leastLevelBetween_69 : decode cX6_leastLevelBetween 69 = .ok (.invokevirtual 167, 3) := by decide +kernel
theorem dX6_leastLevelBetween_72 : decode cX6_leastLevelBetween 72 = .ok (.aload_n 0, 1) := by decide +kernel
theorem dX6_leastLevelBetween_73 : decode cX6_leastLevelBetween 73 = .ok (.getfield 19, 3) := by decide +kernel
theorem dX6_leastLevelBetween_76 : decode cX6_leastLevelBetween 76 = .ok (.iload_n 2, 1) := by decide +kernel
theorem dX6_leastLevelBetween_77 : decode cX6_leastLevelBetween 77 = .ok (.invokevirtual 230, 3) := by decide +kernel
theorem dX6_leastLevelBetween_80 : decode cX6_leastLevelBetween 80 = .ok (.ifCond .eq 10, 3) := by decide +kernel
theorem dX6_leastLevelBetween_83 : decode cX6_leastLevelBetween 83 = .ok (.iload 6, 2) := by decide +kernel
theorem dX6_leastLevelBetween_85 : decode cX6_leastLevelBetween 85 = .ok (.istore 4, 2) := by decide +kernel
theorem dX6_leastLevelBetween_87 : decode cX6_leastLevelBetween 87 = .ok (.goto 8, 3) := by decide +kernel
theorem dX6_leastLevelBetween_90 : decode cX6_leastLevelBetween 90 = .ok (.iload 6, 2) := by decide +kernel
theorem dX6_leastLevelBetween_92 : decode cX6_leastLevelBetween 92 = .ok (.iconst 1, 1) := by decide +kernel
theorem dX6_leastLevelBetween_93 : decode cX6_leastLevelBetween 93 = .ok (.iadd, 1) := by decide +kernel
theorem dX6_leastLevelBetween_94 : decode cX6_leastLevelBetween 94 = .ok (.istore_n 3, 1) := by decide +kernel
theorem dX6_leastLevelBetween_95 : decode cX6_leastLevelBetween 95 = .ok (.iinc 5 1, 3) := by decide +kernel
theorem dX6_leastLevelBetween_98 : decode cX6_leastLevelBetween 98 = .ok (.goto (-69), 3) := by decide +kernel
theorem dX6_leastLevelBetween_101 : decode cX6_leastLevelBetween 101 = .ok (.iload_n 3, 1) := by decide +kernel
theorem dX6_leastLevelBetween_102 : decode cX6_leastLevelBetween 102 = .ok (.ireturn, 1) := by decide +kernel
theorem dJ9_abs_0f7a4_0 : decode cJ9_abs_0f7a4 0 = .ok (.iload_n 0, 1) := by decide +kernel
theorem dJ9_abs_0f7a4_1 : decode cJ9_abs_0f7a4 1 = .ok (.ifCond .ge 8, 3) := by decide +kernel
theorem dJ9_abs_0f7a4_4 : decode cJ9_abs_0f7a4 4 = .ok (.iload_n 0, 1) := by decide +kernel
theorem dJ9_abs_0f7a4_5 : decode cJ9_abs_0f7a4 5 = .ok (.ineg, 1) := by decide +kernel
theorem dJ9_abs_0f7a4_6 : decode cJ9_abs_0f7a4 6 = .ok (.goto 4, 3) := by decide +kernel
theorem dJ9_abs_0f7a4_9 : decode cJ9_abs_0f7a4 9 = .ok (.iload_n 0, 1) := by decide +kernel
theorem dJ9_abs_0f7a4_10 : decode cJ9_abs_0f7a4 10 = .ok (.ireturn, 1) := by decide +kernel
theorem dJ9_max_7cf53_0 : decode cJ9_max_7cf53 0 = .ok (.iload_n 0, 1) := by decide +kernel
theorem dJ9_max_7cf53_1 : decode cJ9_max_7cf53 1 = .ok (.iload_n 1, 1) := by decide +kernel
theorem dJ9_max_7cf53_2 : decode cJ9_max_7cf53 2 = .ok (.if_icmp .lt 7, 3) := by decide +kernel
theorem dJ9_max_7cf53_5 : decode cJ9_max_7cf53 5 = .ok (.iload_n 0, 1) := by decide +kernel
theorem dJ9_max_7cf53_6 : decode cJ9_max_7cf53 6 = .ok (.goto 4, 3) := by decide +kernel
theorem dJ9_max_7cf53_9 : decode cJ9_max_7cf53 9 = .ok (.iload_n 1, 1) := by decide +kernel
theorem dJ9_max_7cf53_10 : decode cJ9_max_7cf53 10 = .ok (.ireturn, 1) := by decide +kernel
theorem dJ9_min_7cf53_0 : decode cJ9_min_7cf53 0 = .ok (.iload_n 0, 1) := by decide +kernel
theorem dJ9_min_7cf53_1 : decode cJ9_min_7cf53 1 = .ok (.iload_n 1, 1) := by decide +kernel
theorem dJ9_min_7cf53_2 : decode cJ9_min_7cf53 2 = .ok (.if_icmp .gt 7, 3) := by decide +kernel
theorem dJ9_min_7cf53_5 : decode cJ9_min_7cf53 5 = .ok (.iload_n 0, 1) := by decide +kernel
theorem dJ9_min_7cf53_6 : decode cJ9_min_7cf53 6 = .ok (.goto 4, 3) := by decide +kernel
theorem dJ9_min_7cf53_9 : decode cJ9_min_7cf53 9 = .ok (.iload_n 1, 1) := by decide +kernel
theorem dJ9_min_7cf53_10 : decode cJ9_min_7cf53 10 = .ok (.ireturn, 1) := by decide +kernel
theorem dJ7_fill_53178_0 : decode cJ7_fill_53178 0 = .ok (.iconst 0, 1) := by decide +kernel
theorem dJ7_fill_53178_1 : decode cJ7_fill_53178 1 = .ok (.istore_n 2, 1) := by decide +kernel
theorem dJ7_fill_53178_2 : decode cJ7_fill_53178 2 = .ok (.aload_n 0, 1) := by decide +kernel
theorem dJ7_fill_53178_3 : decode cJ7_fill_53178 3 = .ok (.arraylength, 1) := by decide +kernel
theorem dJ7_fill_53178_4 : decode cJ7_fill_53178 4 = .ok (.istore_n 3, 1) := by decide +kernel
theorem dJ7_fill_53178_5 : decode cJ7_fill_53178 5 = .ok (.iload_n 2, 1) := by decide +kernel
theorem dJ7_fill_53178_6 : decode cJ7_fill_53178 6 = .ok (.iload_n 3, 1) := by decide +kernel
theorem dJ7_fill_53178_7 : decode cJ7_fill_53178 7 = .ok (.if_icmp .ge 13, 3) := by decide +kernel
theorem dJ7_fill_53178_10 : decode cJ7_fill_53178 10 = .ok (.aload_n 0, 1) := by decide +kernel
theorem dJ7_fill_53178_11 : decode cJ7_fill_53178 11 = .ok (.iload_n 2, 1) := by decide +kernel
theorem dJ7_fill_53178_12 : decode cJ7_fill_53178 12 = .ok (.iload_n 1, 1) := by decide +kernel
theorem dJ7_fill_53178_13 : decode cJ7_fill_53178 13 = .ok (.iastore, 1) := by decide +kernel
theorem dJ7_fill_53178_14 : decode cJ7_fill_53178 14 = .ok (.iinc 2 1, 3) := by decide +kernel
theorem dJ7_fill_53178_17 : decode cJ7_fill_53178 17 = .ok (.goto (-12), 3) := by decide +kernel
theorem dJ7_fill_53178_20 : decode cJ7_fill_53178 20 = .ok (.return_, 1) := by decide +kernel
