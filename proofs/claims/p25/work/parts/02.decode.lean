theorem dX0_init_0 : decode cX0_init 0 = .ok (.aload_n 0, 1) := by decide +kernel
theorem dX0_init_1 : decode cX0_init 1 = .ok (.invokespecial 3, 3) := by decide +kernel
theorem dX0_init_4 : decode cX0_init 4 = .ok (.aload_n 0, 1) := by decide +kernel
theorem dX0_init_5 : decode cX0_init 5 = .ok (.iconst 0, 1) := by decide +kernel
theorem dX0_init_6 : decode cX0_init 6 = .ok (.putfield 9, 3) := by decide +kernel
theorem dX0_init_9 : decode cX0_init 9 = .ok (.aload_n 0, 1) := by decide +kernel
theorem dX0_init_10 : decode cX0_init 10 = .ok (.iconst 0, 1) := by decide +kernel
theorem dX0_init_11 : decode cX0_init 11 = .ok (.putfield 15, 3) := by decide +kernel
theorem dX0_init_14 : decode cX0_init 14 = .ok (.aload_n 0, 1) := by decide +kernel
theorem dX0_init_15 : decode cX0_init 15 = .ok (.bipush 10, 2) := by decide +kernel
theorem dX0_init_17 : decode cX0_init 17 = .ok (.anewarray 18, 3) := by decide +kernel
theorem dX0_init_20 : decode cX0_init 20 = .ok (.putfield 20, 3) := by decide +kernel
theorem dX0_init_23 : decode cX0_init 23 = .ok (.iconst 0, 1) := by decide +kernel
theorem dX0_init_24 : decode cX0_init 24 = .ok (.istore_n 1, 1) := by decide +kernel
theorem dX0_init_25 : decode cX0_init 25 = .ok (.iload_n 1, 1) := by decide +kernel
theorem dX0_init_26 : decode cX0_init 26 = .ok (.bipush 10, 2) := by decide +kernel
theorem dX0_init_28 : decode cX0_init 28 = .ok (.if_icmp .ge 22, 3) := by decide +kernel
theorem dX0_init_31 : decode cX0_init 31 = .ok (.aload_n 0, 1) := by decide +kernel
theorem dX0_init_32 : decode cX0_init 32 = .ok (.getfield 20, 3) := by decide +kernel
theorem dX0_init_35 : decode cX0_init 35 = .ok (.iload_n 1, 1) := by decide +kernel
theorem dX0_init_36 : decode cX0_init 36 = .ok (.new 18, 3) := by decide +kernel
theorem dX0_init_39 : decode cX0_init 39 = .ok (.dup, 1) := by decide +kernel
theorem dX0_init_40 : decode cX0_init 40 = .ok (.invokespecial 24, 3) := by decide +kernel
theorem dX0_init_43 : decode cX0_init 43 = .ok (.aastore, 1) := by decide +kernel
theorem dX0_init_44 : decode cX0_init 44 = .ok (.iinc 1 1, 3) := by decide +kernel
theorem dX0_init_47 : decode cX0_init 47 = .ok (.goto (-22), 3) := by decide +kernel
theorem dX0_init_50 : decode cX0_init 50 = .ok (.return_, 1) := by decide +kernel
theorem dX0_forget_0 : decode cX0_forget 0 = .ok (.aload_n 0, 1) := by decide +kernel
theorem dX0_forget_1 : decode cX0_forget 1 = .ok (.iconst 0, 1) := by decide +kernel
theorem dX0_forget_2 : decode cX0_forget 2 = .ok (.putfield 9, 3) := by decide +kernel
theorem dX0_forget_5 : decode cX0_forget 5 = .ok (.return_, 1) := by decide +kernel
theorem dX0_record_0 : decode cX0_record 0 = .ok (.aload_n 0, 1) := by decide +kernel
theorem dX0_record_1 : decode cX0_record 1 = .ok (.getfield 9, 3) := by decide +kernel
theorem dX0_record_4 : decode cX0_record 4 = .ok (.bipush 10, 2) := by decide +kernel
theorem dX0_record_6 : decode cX0_record 6 = .ok (.if_icmp .ne 26, 3) := by decide +kernel
theorem dX0_record_9 : decode cX0_record 9 = .ok (.aload_n 0, 1) := by decide +kernel
theorem dX0_record_10 : decode cX0_record 10 = .ok (.aload_n 0, 1) := by decide +kernel
theorem dX0_record_11 : decode cX0_record 11 = .ok (.getfield 15, 3) := by decide +kernel
theorem dX0_record_14 : decode cX0_record 14 = .ok (.iconst 1, 1) := by decide +kernel
theorem dX0_record_15 : decode cX0_record 15 = .ok (.iadd, 1) := by decide +kernel
theorem dX0_record_16 : decode cX0_record 16 = .ok (.bipush 10, 2) := by decide +kernel
theorem dX0_record_18 : decode cX0_record 18 = .ok (.irem, 1) := by decide +kernel
theorem dX0_record_19 : decode cX0_record 19 = .ok (.putfield 15, 3) := by decide +kernel
theorem dX0_record_22 : decode cX0_record 22 = .ok (.aload_n 0, 1) := by decide +kernel
theorem dX0_record_23 : decode cX0_record 23 = .ok (.dup, 1) := by decide +kernel
theorem dX0_record_24 : decode cX0_record 24 = .ok (.getfield 9, 3) := by decide +kernel
theorem dX0_record_27 : decode cX0_record 27 = .ok (.iconst 1, 1) := by decide +kernel
theorem dX0_record_28 : decode cX0_record 28 = .ok (.isub, 1) := by decide +kernel
theorem dX0_record_29 : decode cX0_record 29 = .ok (.putfield 9, 3) := by decide +kernel
theorem dX0_record_32 : decode cX0_record 32 = .ok (.aload_n 0, 1) := by decide +kernel
theorem dX0_record_33 : decode cX0_record 33 = .ok (.getfield 20, 3) := by decide +kernel
theorem dX0_record_36 : decode cX0_record 36 = .ok (.aload_n 0, 1) := by decide +kernel
theorem dX0_record_37 : decode cX0_record 37 = .ok (.getfield 15, 3) := by decide +kernel
theorem dX0_record_40 : decode cX0_record 40 = .ok (.aload_n 0, 1) := by decide +kernel
theorem dX0_record_41 : decode cX0_record 41 = .ok (.getfield 9, 3) := by decide +kernel
theorem dX0_record_44 : decode cX0_record 44 = .ok (.iadd, 1) := by decide +kernel
theorem dX0_record_45 : decode cX0_record 45 = .ok (.bipush 10, 2) := by decide +kernel
theorem dX0_record_47 : decode cX0_record 47 = .ok (.irem, 1) := by decide +kernel
theorem dX0_record_48 : decode cX0_record 48 = .ok (.aaload, 1) := by decide +kernel
theorem dX0_record_49 : decode cX0_record 49 = .ok (.aload_n 1, 1) := by decide +kernel
theorem dX0_record_50 : decode cX0_record 50 = .ok (.invokevirtual 25, 3) := by decide +kernel
theorem dX0_record_53 : decode cX0_record 53 = .ok (.aload_n 0, 1) := by decide +kernel
theorem dX0_record_54 : decode cX0_record 54 = .ok (.dup, 1) := by decide +kernel
theorem dX0_record_55 : decode cX0_record 55 = .ok (.getfield 9, 3) := by decide +kernel
theorem dX0_record_58 : decode cX0_record 58 = .ok (.iconst 1, 1) := by decide +kernel
theorem dX0_record_59 : decode cX0_record 59 = .ok (.iadd, 1) := by decide +kernel
theorem dX0_record_60 : decode cX0_record 60 = .ok (.putfield 9, 3) := by decide +kernel
theorem dX0_record_63 : decode cX0_record 63 = .ok (.return_, 1) := by decide +kernel
theorem dX0_restoreLatest_0 : decode cX0_restoreLatest 0 = .ok (.aload_n 0, 1) := by decide +kernel
theorem dX0_restoreLatest_1 : decode cX0_restoreLatest 1 = .ok (.getfield 9, 3) := by decide +kernel
theorem dX0_restoreLatest_4 : decode cX0_restoreLatest 4 = .ok (.ifCond .le 34, 3) := by decide +kernel
theorem dX0_restoreLatest_7 : decode cX0_restoreLatest 7 = .ok (.aload_n 0, 1) := by decide +kernel
theorem dX0_restoreLatest_8 : decode cX0_restoreLatest 8 = .ok (.dup, 1) := by decide +kernel
theorem dX0_restoreLatest_9 : decode cX0_restoreLatest 9 = .ok (.getfield 9, 3) := by decide +kernel
theorem dX0_restoreLatest_12 : decode cX0_restoreLatest 12 = .ok (.iconst 1, 1) := by decide +kernel
theorem dX0_restoreLatest_13 : decode cX0_restoreLatest 13 = .ok (.isub, 1) := by decide +kernel
theorem dX0_restoreLatest_14 : decode cX0_restoreLatest 14 = .ok (.putfield 9, 3) := by decide +kernel
theorem dX0_restoreLatest_17 : decode cX0_restoreLatest 17 = .ok (.aload_n 1, 1) := by decide +kernel
theorem dX0_restoreLatest_18 : decode cX0_restoreLatest 18 = .ok (.aload_n 0, 1) := by decide +kernel
theorem dX0_restoreLatest_19 : decode cX0_restoreLatest 19 = .ok (.getfield 20, 3) := by decide +kernel
theorem dX0_restoreLatest_22 : decode cX0_restoreLatest 22 = .ok (.aload_n 0, 1) := by decide +kernel
theorem dX0_restoreLatest_23 : decode cX0_restoreLatest 23 = .ok (.getfield 15, 3) := by decide +kernel
theorem dX0_restoreLatest_26 : decode cX0_restoreLatest 26 = .ok (.aload_n 0, 1) := by decide +kernel
theorem dX0_restoreLatest_27 : decode cX0_restoreLatest 27 = .ok (.getfield 9, 3) := by decide +kernel
theorem dX0_restoreLatest_30 : decode cX0_restoreLatest 30 = .ok (.iadd, 1) := by decide +kernel
theorem dX0_restoreLatest_31 : decode cX0_restoreLatest 31 = .ok (.bipush 10, 2) := by decide +kernel
theorem dX0_restoreLatest_33 : decode cX0_restoreLatest 33 = .ok (.irem, 1) := by decide +kernel
theorem dX0_restoreLatest_34 : decode cX0_restoreLatest 34 = .ok (.aaload, 1) := by decide +kernel
theorem dX0_restoreLatest_35 : decode cX0_restoreLatest 35 = .ok (.invokevirtual 25, 3) := by decide +kernel
theorem dX0_restoreLatest_38 : decode cX0_restoreLatest 38 = .ok (.return_, 1) := by decide +kernel
theorem dX1_init_0 : decode cX1_init 0 = .ok (.aload_n 0, 1) := by decide +kernel
theorem dX1_init_1 : decode cX1_init 1 = .ok (.invokespecial 3, 3) := by decide +kernel
theorem dX1_init_4 : decode cX1_init 4 = .ok (.aload_n 0, 1) := by decide +kernel
theorem dX1_init_5 : decode cX1_init 5 = .ok (.iconst 0, 1) := by decide +kernel
theorem dX1_init_6 : decode cX1_init 6 = .ok (.putfield 9, 3) := by decide +kernel
theorem dX1_init_9 : decode cX1_init 9 = .ok (.aload_n 0, 1) := by decide +kernel
theorem dX1_init_10 : decode cX1_init 10 = .ok (.iconst 0, 1) := by decide +kernel
theorem dX1_init_11 : decode cX1_init 11 = .ok (.putfield 15, 3) := by decide +kernel
theorem dX1_init_14 : decode cX1_init 14 = .ok (.aload_n 0, 1) := by decide +kernel
theorem dX1_init_15 : decode cX1_init 15 = .ok (.iconst (-1), 1) := by decide +kernel
theorem dX1_init_16 : decode cX1_init 16 = .ok (.putfield 19, 3) := by decide +kernel
theorem dX1_init_19 : decode cX1_init 19 = .ok (.aload_n 0, 1) := by decide +kernel
theorem dX1_init_20 : decode cX1_init 20 = .ok (.iconst 0, 1) := by decide +kernel
theorem dX1_init_21 : decode cX1_init 21 = .ok (.putfield 22, 3) := by decide +kernel
theorem dX1_init_24 : decode cX1_init 24 = .ok (.aload_n 0, 1) := by decide +kernel
theorem dX1_init_25 : decode cX1_init 25 = .ok (.iconst 0, 1) := by decide +kernel
theorem dX1_init_26 : decode cX1_init 26 = .ok (.putfield 25, 3) := by decide +kernel
theorem dX1_init_29 : decode cX1_init 29 = .ok (.aload_n 0, 1) := by decide +kernel
theorem dX1_init_30 : decode cX1_init 30 = .ok (.new 28, 3) := by decide +kernel
theorem dX1_init_33 : decode cX1_init 33 = .ok (.dup, 1) := by decide +kernel
theorem dX1_init_34 : decode cX1_init 34 = .ok (.iconst 0, 1) := by decide +kernel
theorem dX1_init_35 : decode cX1_init 35 = .ok (.invokespecial 30, 3) := by decide +kernel
theorem dX1_init_38 : decode cX1_init 38 = .ok (.putfield 33, 3) := by decide +kernel
theorem dX1_init_41 : decode cX1_init 41 = .ok (.aload_n 0, 1) := by decide +kernel
theorem dX1_init_42 : decode cX1_init 42 = .ok (.aload_n 1, 1) := by decide +kernel
theorem dX1_init_43 : decode cX1_init 43 = .ok (.putfield 37, 3) := by decide +kernel
theorem dX1_init_46 : decode cX1_init 46 = .ok (.aload_n 0, 1) := by decide +kernel
theorem dX1_init_47 : decode cX1_init 47 = .ok (.aload_n 2, 1) := by decide +kernel
theorem dX1_init_48 : decode cX1_init 48 = .ok (.putfield 41, 3) := by decide +kernel
theorem dX1_init_51 : decode cX1_init 51 = .ok (.return_, 1) := by decide +kernel
theorem dX1_routeWith_0 : decode cX1_routeWith 0 = .ok (.aload_n 0, 1) := by decide +kernel
theorem dX1_routeWith_1 : decode cX1_routeWith 1 = .ok (.getfield 33, 3) := by decide +kernel
theorem dX1_routeWith_4 : decode cX1_routeWith 4 = .ok (.aload_n 1, 1) := by decide +kernel
theorem dX1_routeWith_5 : decode cX1_routeWith 5 = .ok (.invokevirtual 45, 3) := by decide +kernel
theorem dX1_routeWith_8 : decode cX1_routeWith 8 = .ok (.aload_n 0, 1) := by decide +kernel
theorem dX1_routeWith_9 : decode cX1_routeWith 9 = .ok (.getfield 33, 3) := by decide +kernel
theorem dX1_routeWith_12 : decode cX1_routeWith 12 = .ok (.iload_n 2, 1) := by decide +kernel
theorem dX1_routeWith_13 : decode cX1_routeWith 13 = .ok (.iload_n 3, 1) := by decide +kernel
theorem dX1_routeWith_14 : decode cX1_routeWith 14 = .ok (.iload 4, 2) := by decide +kernel
theorem dX1_routeWith_16 : decode cX1_routeWith 16 = .ok (.invokevirtual 49, 3) := by decide +kernel
theorem dX1_routeWith_19 : decode cX1_routeWith 19 = .ok (.aload_n 0, 1) := by decide +kernel
theorem dX1_routeWith_20 : decode cX1_routeWith 20 = .ok (.getfield 33, 3) := by decide +kernel
theorem dX1_routeWith_23 : decode cX1_routeWith 23 = .ok (.areturn, 1) := by decide +kernel
theorem dX1_startOver_0 : decode cX1_startOver 0 = .ok (.aload_n 0, 1) := by decide +kernel
theorem dX1_startOver_1 : decode cX1_startOver 1 = .ok (.iconst 0, 1) := by decide +kernel
theorem dX1_startOver_2 : decode cX1_startOver 2 = .ok (.putfield 9, 3) := by decide +kernel
theorem dX1_startOver_5 : decode cX1_startOver 5 = .ok (.aload_n 0, 1) := by decide +kernel
theorem dX1_startOver_6 : decode cX1_startOver 6 = .ok (.ldc 53, 2) := by decide +kernel
theorem dX1_startOver_8 : decode cX1_startOver 8 = .ok (.putfield 15, 3) := by decide +kernel
theorem dX1_startOver_11 : decode cX1_startOver 11 = .ok (.aload_n 0, 1) := by decide +kernel
theorem dX1_startOver_12 : decode cX1_startOver 12 = .ok (.iconst (-1), 1) := by decide +kernel
theorem dX1_startOver_13 : decode cX1_startOver 13 = .ok (.putfield 19, 3) := by decide +kernel
theorem dX1_startOver_16 : decode cX1_startOver 16 = .ok (.return_, 1) := by decide +kernel
theorem dX1_tryRoute_0 : decode cX1_tryRoute 0 = .ok (.iconst 0, 1) := by decide +kernel
theorem dX1_tryRoute_1 : decode cX1_tryRoute 1 = .ok (.istore_n 3, 1) := by decide +kernel
theorem dX1_tryRoute_2 : decode cX1_tryRoute 2 = .ok (.iload_n 3, 1) := by decide +kernel
theorem dX1_tryRoute_3 : decode cX1_tryRoute 3 = .ok (.aload_n 1, 1) := by decide +kernel
theorem dX1_tryRoute_4 : decode cX1_tryRoute 4 = .ok (.getfield 54, 3) := by decide +kernel
theorem dX1_tryRoute_7 : decode cX1_tryRoute 7 = .ok (.if_icmp .gt 103, 3) := by decide +kernel
theorem dX1_tryRoute_10 : decode cX1_tryRoute 10 = .ok (.iload_n 3, 1) := by decide +kernel
theorem dX1_tryRoute_11 : decode cX1_tryRoute 11 = .ok (.iconst 1, 1) := by decide +kernel
theorem dX1_tryRoute_12 : decode cX1_tryRoute 12 = .ok (.iadd, 1) := by decide +kernel
theorem dX1_tryRoute_13 : decode cX1_tryRoute 13 = .ok (.istore 4, 2) := by decide +kernel
theorem dX1_tryRoute_15 : decode cX1_tryRoute 15 = .ok (.iload 4, 2) := by decide +kernel
theorem dX1_tryRoute_17 : decode cX1_tryRoute 17 = .ok (.aload_n 1, 1) := by decide +kernel
theorem dX1_tryRoute_18 : decode cX1_tryRoute 18 = .ok (.getfield 54, 3) := by decide +kernel
theorem dX1_tryRoute_21 : decode cX1_tryRoute 21 = .ok (.iconst 1, 1) := by decide +kernel
theorem dX1_tryRoute_22 : decode cX1_tryRoute 22 = .ok (.iadd, 1) := by decide +kernel
theorem dX1_tryRoute_23 : decode cX1_tryRoute 23 = .ok (.if_icmp .gt 81, 3) := by decide +kernel
theorem dX1_tryRoute_26 : decode cX1_tryRoute 26 = .ok (.aload_n 0, 1) := by decide +kernel
theorem dX1_tryRoute_27 : decode cX1_tryRoute 27 = .ok (.getfield 37, 3) := by decide +kernel
theorem dX1_tryRoute_30 : decode cX1_tryRoute 30 = .ok (.aload_n 1, 1) := by decide +kernel
theorem dX1_tryRoute_31 : decode cX1_tryRoute 31 = .ok (.iload_n 2, 1) := by decide +kernel
theorem dX1_tryRoute_32 : decode cX1_tryRoute 32 = .ok (.iload_n 3, 1) := by decide +kernel
theorem dX1_tryRoute_33 : decode cX1_tryRoute 33 = .ok (.iload 4, 2) := by decide +kernel
theorem dX1_tryRoute_35 : decode cX1_tryRoute 35 = .ok (.invokevirtual 57, 3) := by decide +kernel
theorem dX1_tryRoute_38 : decode cX1_tryRoute 38 = .ok (.istore 5, 2) := by decide +kernel
theorem dX1_tryRoute_40 : decode cX1_tryRoute 40 = .ok (.iload 5, 2) := by decide +kernel
theorem dX1_tryRoute_42 : decode cX1_tryRoute 42 = .ok (.aload_n 0, 1) := by decide +kernel
theorem dX1_tryRoute_43 : decode cX1_tryRoute 43 = .ok (.getfield 15, 3) := by decide +kernel
theorem dX1_tryRoute_46 : decode cX1_tryRoute 46 = .ok (.if_icmp .ge 52, 3) := by decide +kernel
theorem dX1_tryRoute_49 : decode cX1_tryRoute 49 = .ok (.aload_n 0, 1) := by decide +kernel
theorem dX1_tryRoute_50 : decode cX1_tryRoute 50 = .ok (.getfield 41, 3) := by decide +kernel
theorem dX1_tryRoute_53 : decode cX1_tryRoute 53 = .ok (.aload_n 0, 1) := by decide +kernel
theorem dX1_tryRoute_54 : decode cX1_tryRoute 54 = .ok (.aload_n 1, 1) := by decide +kernel
theorem dX1_tryRoute_55 : decode cX1_tryRoute 55 = .ok (.iload_n 2, 1) := by decide +kernel
theorem dX1_tryRoute_56 : decode cX1_tryRoute 56 = .ok (.iload_n 3, 1) := by decide +kernel
theorem dX1_tryRoute_57 : decode cX1_tryRoute 57 = .ok (.iload 4, 2) := by decide +kernel
theorem dX1_tryRoute_59 : decode cX1_tryRoute 59 = .ok (.invokevirtual 63, 3) := by decide +kernel
theorem dX1_tryRoute_62 : decode cX1_tryRoute 62 = .ok (.invokevirtual 67, 3) := by decide +kernel
theorem dX1_tryRoute_65 : decode cX1_tryRoute 65 = .ok (.ifCond .eq 33, 3) := by decide +kernel
theorem dX1_tryRoute_68 : decode cX1_tryRoute 68 = .ok (.aload_n 0, 1) := by decide +kernel
theorem dX1_tryRoute_69 : decode cX1_tryRoute 69 = .ok (.iconst 1, 1) := by decide +kernel
theorem dX1_tryRoute_70 : decode cX1_tryRoute 70 = .ok (.putfield 9, 3) := by decide +kernel
theorem dX1_tryRoute_73 : decode cX1_tryRoute 73 = .ok (.aload_n 0, 1) := by decide +kernel
theorem dX1_tryRoute_74 : decode cX1_tryRoute 74 = .ok (.iload 5, 2) := by decide +kernel
theorem dX1_tryRoute_76 : decode cX1_tryRoute 76 = .ok (.putfield 15, 3) := by decide +kernel
theorem dX1_tryRoute_79 : decode cX1_tryRoute 79 = .ok (.aload_n 0, 1) := by decide +kernel
theorem dX1_tryRoute_80 : decode cX1_tryRoute 80 = .ok (.aload_n 1, 1) := by decide +kernel
theorem dX1_tryRoute_81 : decode cX1_tryRoute 81 = .ok (.getfield 73, 3) := by decide +kernel
theorem dX1_tryRoute_84 : decode cX1_tryRoute 84 = .ok (.putfield 19, 3) := by decide +kernel
theorem dX1_tryRoute_87 : decode cX1_tryRoute 87 = .ok (.aload_n 0, 1) := by decide +kernel
theorem dX1_tryRoute_88 : decode cX1_tryRoute 88 = .ok (.iload_n 3, 1) := by decide +kernel
theorem dX1_tryRoute_89 : decode cX1_tryRoute 89 = .ok (.putfield 22, 3) := by decide +kernel
theorem dX1_tryRoute_92 : decode cX1_tryRoute 92 = .ok (.aload_n 0, 1) := by decide +kernel
theorem dX1_tryRoute_93 : decode cX1_tryRoute 93 = .ok (.iload 4, 2) := by decide +kernel
theorem dX1_tryRoute_95 : decode cX1_tryRoute 95 = .ok (.putfield 25, 3) := by decide +kernel
theorem dX1_tryRoute_98 : decode cX1_tryRoute 98 = .ok (.iinc 4 1, 3) := by decide +kernel
theorem dX1_tryRoute_101 : decode cX1_tryRoute 101 = .ok (.goto (-86), 3) := by decide +kernel
theorem dX1_tryRoute_104 : decode cX1_tryRoute 104 = .ok (.iinc 3 1, 3) := by decide +kernel
theorem dX1_tryRoute_107 : decode cX1_tryRoute 107 = .ok (.goto (-105), 3) := by decide +kernel
theorem dX1_tryRoute_110 : decode cX1_tryRoute 110 = .ok (.return_, 1) := by decide +kernel
theorem dX1_tryAllBut_0 : decode cX1_tryAllBut 0 = .ok (.aload_n 0, 1) := by decide +kernel
theorem dX1_tryAllBut_1 : decode cX1_tryAllBut 1 = .ok (.invokevirtual 74, 3) := by decide +kernel
theorem dX1_tryAllBut_4 : decode cX1_tryAllBut 4 = .ok (.iconst 0, 1) := by decide +kernel
theorem dX1_tryAllBut_5 : decode cX1_tryAllBut 5 = .ok (.istore 4, 2) := by decide +kernel
theorem dX1_tryAllBut_7 : decode cX1_tryAllBut 7 = .ok (.iload 4, 2) := by decide +kernel
theorem dX1_tryAllBut_9 : decode cX1_tryAllBut 9 = .ok (.aload_n 0, 1) := by decide +kernel
theorem dX1_tryAllBut_10 : decode cX1_tryAllBut 10 = .ok (.getfield 37, 3) := by decide +kernel
theorem dX1_tryAllBut_13 : decode cX1_tryAllBut 13 = .ok (.getfield 77, 3) := by decide +kernel
theorem dX1_tryAllBut_16 : decode cX1_tryAllBut 16 = .ok (.if_icmp .ge 27, 3) := by decide +kernel
theorem dX1_tryAllBut_19 : decode cX1_tryAllBut 19 = .ok (.iload 4, 2) := by decide +kernel
theorem dX1_tryAllBut_21 : decode cX1_tryAllBut 21 = .ok (.iload_n 1, 1) := by decide +kernel
theorem dX1_tryAllBut_22 : decode cX1_tryAllBut 22 = .ok (.if_icmp .eq 15, 3) := by decide +kernel
theorem dX1_tryAllBut_25 : decode cX1_tryAllBut 25 = .ok (.aload_n 0, 1) := by decide +kernel
theorem dX1_tryAllBut_26 : decode cX1_tryAllBut 26 = .ok (.aload_n 2, 1) := by decide +kernel
theorem dX1_tryAllBut_27 : decode cX1_tryAllBut 27 = .ok (.getfield 80, 3) := by decide +kernel
theorem dX1_tryAllBut_30 : decode cX1_tryAllBut 30 = .ok (.iload 4, 2) := by decide +kernel
theorem dX1_tryAllBut_32 : decode cX1_tryAllBut 32 = .ok (.aaload, 1) := by decide +kernel
theorem dX1_tryAllBut_33 : decode cX1_tryAllBut 33 = .ok (.iload_n 3, 1) := by decide +kernel
theorem dX1_tryAllBut_34 : decode cX1_tryAllBut 34 = .ok (.invokevirtual 86, 3) := by decide +kernel
theorem dX1_tryAllBut_37 : decode cX1_tryAllBut 37 = .ok (.iinc 4 1, 3) := by decide +kernel
theorem dX1_tryAllBut_40 : decode cX1_tryAllBut 40 = .ok (.goto (-33), 3) := by decide +kernel
theorem dX1_tryAllBut_43 : decode cX1_tryAllBut 43 = .ok (.return_, 1) := by decide +kernel
theorem dX1_carryOut_0 : decode cX1_carryOut 0 = .ok (.aload_n 0, 1) := by decide +kernel
theorem dX1_carryOut_1 : decode cX1_carryOut 1 = .ok (.getfield 9, 3) := by decide +kernel
theorem dX1_carryOut_4 : decode cX1_carryOut 4 = .ok (.ifCond .eq 20, 3) := by decide +kernel
theorem dX1_carryOut_7 : decode cX1_carryOut 7 = .ok (.aload_n 1, 1) := by decide +kernel
theorem dX1_carryOut_8 : decode cX1_carryOut 8 = .ok (.iload_n 2, 1) := by decide +kernel
theorem dX1_carryOut_9 : decode cX1_carryOut 9 = .ok (.aload_n 0, 1) := by decide +kernel
theorem dX1_carryOut_10 : decode cX1_carryOut 10 = .ok (.getfield 19, 3) := by decide +kernel
theorem dX1_carryOut_13 : decode cX1_carryOut 13 = .ok (.aload_n 0, 1) := by decide +kernel
theorem dX1_carryOut_14 : decode cX1_carryOut 14 = .ok (.getfield 22, 3) := by decide +kernel
theorem dX1_carryOut_17 : decode cX1_carryOut 17 = .ok (.aload_n 0, 1) := by decide +kernel
theorem dX1_carryOut_18 : decode cX1_carryOut 18 = .ok (.getfield 25, 3) := by decide +kernel
theorem dX1_carryOut_21 : decode cX1_carryOut 21 = .ok (.invokevirtual 90, 3) := by decide +kernel
theorem dX1_carryOut_24 : decode cX1_carryOut 24 = .ok (.aload_n 0, 1) := by decide +kernel
theorem dX1_carryOut_25 : decode cX1_carryOut 25 = .ok (.getfield 9, 3) := by decide +kernel
theorem dX1_carryOut_28 : decode cX1_carryOut 28 = .ok (.ireturn, 1) := by decide +kernel
theorem dX2_init_0 : decode cX2_init 0 = .ok (.aload_n 0, 1) := by decide +kernel
theorem dX2_init_1 : decode cX2_init 1 = .ok (.invokespecial 3, 3) := by decide +kernel
theorem dX2_init_4 : decode cX2_init 4 = .ok (.aload_n 0, 1) := by decide +kernel
theorem dX2_init_5 : decode cX2_init 5 = .ok (.iconst 0, 1) := by decide +kernel
theorem dX2_init_6 : decode cX2_init 6 = .ok (.putfield 9, 3) := by decide +kernel
theorem dX2_init_9 : decode cX2_init 9 = .ok (.aload_n 0, 1) := by decide +kernel
theorem dX2_init_10 : decode cX2_init 10 = .ok (.iconst 0, 1) := by decide +kernel
theorem dX2_init_11 : decode cX2_init 11 = .ok (.putfield 15, 3) := by decide +kernel
theorem dX2_init_14 : decode cX2_init 14 = .ok (.aload_n 0, 1) := by decide +kernel
theorem dX2_init_15 : decode cX2_init 15 = .ok (.iconst 0, 1) := by decide +kernel
theorem dX2_init_16 : decode cX2_init 16 = .ok (.putfield 19, 3) := by decide +kernel
theorem dX2_init_19 : decode cX2_init 19 = .ok (.aload_n 0, 1) := by decide +kernel
theorem dX2_init_20 : decode cX2_init 20 = .ok (.iconst 0, 1) := by decide +kernel
theorem dX2_init_21 : decode cX2_init 21 = .ok (.putfield 22, 3) := by decide +kernel
theorem dX2_init_24 : decode cX2_init 24 = .ok (.aload_n 0, 1) := by decide +kernel
theorem dX2_init_25 : decode cX2_init 25 = .ok (.new 25, 3) := by decide +kernel
theorem dX2_init_28 : decode cX2_init 28 = .ok (.dup, 1) := by decide +kernel
theorem dX2_init_29 : decode cX2_init 29 = .ok (.invokespecial 27, 3) := by decide +kernel
theorem dX2_init_32 : decode cX2_init 32 = .ok (.putfield 28, 3) := by decide +kernel
theorem dX2_init_35 : decode cX2_init 35 = .ok (.aload_n 0, 1) := by decide +kernel
theorem dX2_init_36 : decode cX2_init 36 = .ok (.new 25, 3) := by decide +kernel
theorem dX2_init_39 : decode cX2_init 39 = .ok (.dup, 1) := by decide +kernel
theorem dX2_init_40 : decode cX2_init 40 = .ok (.invokespecial 27, 3) := by decide +kernel
theorem dX2_init_43 : decode cX2_init 43 = .ok (.putfield 32, 3) := by decide +kernel
theorem dX2_init_46 : decode cX2_init 46 = .ok (.aload_n 0, 1) := by decide +kernel
theorem dX2_init_47 : decode cX2_init 47 = .ok (.new 25, 3) := by decide +kernel
theorem dX2_init_50 : decode cX2_init 50 = .ok (.dup, 1) := by decide +kernel
theorem dX2_init_51 : decode cX2_init 51 = .ok (.invokespecial 27, 3) := by decide +kernel
theorem dX2_init_54 : decode cX2_init 54 = .ok (.putfield 35, 3) := by decide +kernel
theorem dX2_init_57 : decode cX2_init 57 = .ok (.aload_n 0, 1) := by decide +kernel
theorem dX2_init_58 : decode cX2_init 58 = .ok (.iconst 0, 1) := by decide +kernel
theorem dX2_init_59 : decode cX2_init 59 = .ok (.putfield 38, 3) := by decide +kernel
theorem dX2_init_62 : decode cX2_init 62 = .ok (.aload_n 0, 1) := by decide +kernel
theorem dX2_init_63 : decode cX2_init 63 = .ok (.aload_n 1, 1) := by decide +kernel
theorem dX2_init_64 : decode cX2_init 64 = .ok (.putfield 41, 3) := by decide +kernel
theorem dX2_init_67 : decode cX2_init 67 = .ok (.aload_n 0, 1) := by decide +kernel
theorem dX2_init_68 : decode cX2_init 68 = .ok (.aload_n 2, 1) := by decide +kernel
theorem dX2_init_69 : decode cX2_init 69 = .ok (.putfield 45, 3) := by decide +kernel
theorem dX2_init_72 : decode cX2_init 72 = .ok (.return_, 1) := by decide +kernel
theorem dX2_findChain_0 : decode cX2_findChain 0 = .ok (.aload_n 0, 1) := by decide +kernel
theorem dX2_findChain_1 : decode cX2_findChain 1 = .ok (.aload_n 1, 1) := by decide +kernel
theorem dX2_findChain_2 : decode cX2_findChain 2 = .ok (.ldc 49, 2) := by decide +kernel
theorem dX2_findChain_4 : decode cX2_findChain 4 = .ok (.invokevirtual 50, 3) := by decide +kernel
theorem dX2_findChain_7 : decode cX2_findChain 7 = .ok (.iconst 0, 1) := by decide +kernel
theorem dX2_findChain_8 : decode cX2_findChain 8 = .ok (.istore_n 3, 1) := by decide +kernel
theorem dX2_findChain_9 : decode cX2_findChain 9 = .ok (.iload_n 3, 1) := by decide +kernel
theorem dX2_findChain_10 : decode cX2_findChain 10 = .ok (.aload_n 0, 1) := by decide +kernel
theorem dX2_findChain_11 : decode cX2_findChain 11 = .ok (.getfield 41, 3) := by decide +kernel
theorem dX2_findChain_14 : decode cX2_findChain 14 = .ok (.getfield 54, 3) := by decide +kernel
theorem dX2_findChain_17 : decode cX2_findChain 17 = .ok (.if_icmp .ge 16, 3) := by decide +kernel
theorem dX2_findChain_20 : decode cX2_findChain 20 = .ok (.aload_n 0, 1) := by decide +kernel
theorem dX2_findChain_21 : decode cX2_findChain 21 = .ok (.aload_n 1, 1) := by decide +kernel
theorem dX2_findChain_22 : decode cX2_findChain 22 = .ok (.iload_n 2, 1) := by decide +kernel
theorem dX2_findChain_23 : decode cX2_findChain 23 = .ok (.iload_n 3, 1) := by decide +kernel
theorem dX2_findChain_24 : decode cX2_findChain 24 = .ok (.invokevirtual 59, 3) := by decide +kernel
theorem dX2_findChain_27 : decode cX2_findChain 27 = .ok (.iinc 3 1, 3) := by decide +kernel
theorem dX2_findChain_30 : decode cX2_findChain 30 = .ok (.goto (-21), 3) := by decide +kernel
theorem dX2_findChain_33 : decode cX2_findChain 33 = .ok (.aload_n 0, 1) := by decide +kernel
theorem dX2_findChain_34 : decode cX2_findChain 34 = .ok (.getfield 9, 3) := by decide +kernel
theorem dX2_findChain_37 : decode cX2_findChain 37 = .ok (.ifCond .eq 4, 3) := by decide +kernel
theorem dX2_findChain_40 : decode cX2_findChain 40 = .ok (.return_, 1) := by decide +kernel
theorem dX2_findChain_41 : decode cX2_findChain 41 = .ok (.iconst 0, 1) := by decide +kernel
theorem dX2_findChain_42 : decode cX2_findChain 42 = .ok (.istore_n 3, 1) := by decide +kernel
theorem dX2_findChain_43 : decode cX2_findChain 43 = .ok (.iload_n 3, 1) := by decide +kernel
theorem dX2_findChain_44 : decode cX2_findChain 44 = .ok (.aload_n 0, 1) := by decide +kernel
theorem dX2_findChain_45 : decode cX2_findChain 45 = .ok (.getfield 41, 3) := by decide +kernel
theorem dX2_findChain_48 : decode cX2_findChain 48 = .ok (.getfield 54, 3) := by decide +kernel
theorem dX2_findChain_51 : decode cX2_findChain 51 = .ok (.if_icmp .ge 16, 3) := by decide +kernel
theorem dX2_findChain_54 : decode cX2_findChain 54 = .ok (.aload_n 0, 1) := by decide +kernel
theorem dX2_findChain_55 : decode cX2_findChain 55 = .ok (.aload_n 1, 1) := by decide +kernel
theorem dX2_findChain_56 : decode cX2_findChain 56 = .ok (.iload_n 2, 1) := by decide +kernel
theorem dX2_findChain_57 : decode cX2_findChain 57 = .ok (.iload_n 3, 1) := by decide +kernel
theorem dX2_findChain_58 : decode cX2_findChain 58 = .ok (.invokevirtual 63, 3) := by decide +kernel
theorem dX2_findChain_61 : decode cX2_findChain 61 = .ok (.iinc 3 1, 3) := by decide +kernel
theorem dX2_findChain_64 : decode cX2_findChain 64 = .ok (.goto (-21), 3) := by decide +kernel
theorem dX2_findChain_67 : decode cX2_findChain 67 = .ok (.return_, 1) := by decide +kernel
theorem dX2_findImprovement_0 : decode cX2_findImprovement 0 = .ok (.aload_n 0, 1) := by decide +kernel
theorem dX2_findImprovement_1 : decode cX2_findImprovement 1 = .ok (.aload_n 1, 1) := by decide +kernel
theorem dX2_findImprovement_2 : decode cX2_findImprovement 2 = .ok (.iconst 0, 1) := by decide +kernel
theorem dX2_findImprovement_3 : decode cX2_findImprovement 3 = .ok (.invokevirtual 50, 3) := by decide +kernel
theorem dX2_findImprovement_6 : decode cX2_findImprovement 6 = .ok (.iconst 0, 1) := by decide +kernel
theorem dX2_findImprovement_7 : decode cX2_findImprovement 7 = .ok (.istore_n 2, 1) := by decide +kernel
theorem dX2_findImprovement_8 : decode cX2_findImprovement 8 = .ok (.iload_n 2, 1) := by decide +kernel
theorem dX2_findImprovement_9 : decode cX2_findImprovement 9 = .ok (.aload_n 0, 1) := by decide +kernel
theorem dX2_findImprovement_10 : decode cX2_findImprovement 10 = .ok (.getfield 41, 3) := by decide +kernel
theorem dX2_findImprovement_13 : decode cX2_findImprovement 13 = .ok (.getfield 54, 3) := by decide +kernel
theorem dX2_findImprovement_16 : decode cX2_findImprovement 16 = .ok (.if_icmp .ge 69, 3) := by decide +kernel
theorem dX2_findImprovement_19 : decode cX2_findImprovement 19 = .ok (.aload_n 1, 1) := by decide +kernel
theorem dX2_findImprovement_20 : decode cX2_findImprovement 20 = .ok (.getfield 66, 3) := by decide +kernel
theorem dX2_findImprovement_23 : decode cX2_findImprovement 23 = .ok (.iload_n 2, 1) := by decide +kernel
theorem dX2_findImprovement_24 : decode cX2_findImprovement 24 = .ok (.iaload, 1) := by decide +kernel
theorem dX2_findImprovement_25 : decode cX2_findImprovement 25 = .ok (.iconst (-1), 1) := by decide +kernel
theorem dX2_findImprovement_26 : decode cX2_findImprovement 26 = .ok (.if_icmp .eq 53, 3) := by decide +kernel
theorem dX2_findImprovement_29 : decode cX2_findImprovement 29 = .ok (.aload_n 0, 1) := by decide +kernel
theorem dX2_findImprovement_30 : decode cX2_findImprovement 30 = .ok (.getfield 35, 3) := by decide +kernel
theorem dX2_findImprovement_33 : decode cX2_findImprovement 33 = .ok (.aload_n 1, 1) := by decide +kernel
theorem dX2_findImprovement_34 : decode cX2_findImprovement 34 = .ok (.invokevirtual 70, 3) := by decide +kernel
theorem dX2_findImprovement_37 : decode cX2_findImprovement 37 = .ok (.aload_n 0, 1) := by decide +kernel
theorem dX2_findImprovement_38 : decode cX2_findImprovement 38 = .ok (.getfield 35, 3) := by decide +kernel
theorem dX2_findImprovement_41 : decode cX2_findImprovement 41 = .ok (.iload_n 2, 1) := by decide +kernel
theorem dX2_findImprovement_42 : decode cX2_findImprovement 42 = .ok (.invokevirtual 74, 3) := by decide +kernel
theorem dX2_findImprovement_45 : decode cX2_findImprovement 45 = .ok (.aload_n 0, 1) := by decide +kernel
theorem dX2_findImprovement_46 : decode cX2_findImprovement 46 = .ok (.getfield 45, 3) := by decide +kernel
theorem dX2_findImprovement_49 : decode cX2_findImprovement 49 = .ok (.iconst (-1), 1) := by decide +kernel
theorem dX2_findImprovement_50 : decode cX2_findImprovement 50 = .ok (.aload_n 0, 1) := by decide +kernel
theorem dX2_findImprovement_51 : decode cX2_findImprovement 51 = .ok (.getfield 35, 3) := by decide +kernel
theorem dX2_findImprovement_54 : decode cX2_findImprovement 54 = .ok (.iload_n 2, 1) := by decide +kernel
theorem dX2_findImprovement_55 : decode cX2_findImprovement 55 = .ok (.invokevirtual 78, 3) := by decide +kernel
theorem dX2_findImprovement_58 : decode cX2_findImprovement 58 = .ok (.aload_n 0, 1) := by decide +kernel
theorem dX2_findImprovement_59 : decode cX2_findImprovement 59 = .ok (.getfield 45, 3) := by decide +kernel
theorem dX2_findImprovement_62 : decode cX2_findImprovement 62 = .ok (.aload_n 0, 1) := by decide +kernel
theorem dX2_findImprovement_63 : decode cX2_findImprovement 63 = .ok (.getfield 35, 3) := by decide +kernel
theorem dX2_findImprovement_66 : decode cX2_findImprovement 66 = .ok (.iload_n 2, 1) := by decide +kernel
theorem dX2_findImprovement_67 : decode cX2_findImprovement 67 = .ok (.invokevirtual 84, 3) := by decide +kernel
theorem dX2_findImprovement_70 : decode cX2_findImprovement 70 = .ok (.ifCond .eq 9, 3) := by decide +kernel
theorem dX2_findImprovement_73 : decode cX2_findImprovement 73 = .ok (.aload_n 0, 1) := by decide +kernel
theorem dX2_findImprovement_74 : decode cX2_findImprovement 74 = .ok (.iload_n 2, 1) := by decide +kernel
theorem dX2_findImprovement_75 : decode cX2_findImprovement 75 = .ok (.iload_n 2, 1) := by decide +kernel
theorem dX2_findImprovement_76 : decode cX2_findImprovement 76 = .ok (.invokevirtual 88, 3) := by decide +kernel
theorem dX2_findImprovement_79 : decode cX2_findImprovement 79 = .ok (.iinc 2 1, 3) := by decide +kernel
theorem dX2_findImprovement_82 : decode cX2_findImprovement 82 = .ok (.goto (-74), 3) := by decide +kernel
theorem dX2_findImprovement_85 : decode cX2_findImprovement 85 = .ok (.return_, 1) := by decide +kernel
theorem dX2_startOver_0 : decode cX2_startOver 0 = .ok (.aload_n 0, 1) := by decide +kernel
theorem dX2_startOver_1 : decode cX2_startOver 1 = .ok (.iconst 0, 1) := by decide +kernel
theorem dX2_startOver_2 : decode cX2_startOver 2 = .ok (.putfield 9, 3) := by decide +kernel
theorem dX2_startOver_5 : decode cX2_startOver 5 = .ok (.aload_n 0, 1) := by decide +kernel
theorem dX2_startOver_6 : decode cX2_startOver 6 = .ok (.iload_n 2, 1) := by decide +kernel
theorem dX2_startOver_7 : decode cX2_startOver 7 = .ok (.putfield 15, 3) := by decide +kernel
theorem dX2_startOver_10 : decode cX2_startOver 10 = .ok (.aload_n 0, 1) := by decide +kernel
theorem dX2_startOver_11 : decode cX2_startOver 11 = .ok (.aload_n 0, 1) := by decide +kernel
theorem dX2_startOver_12 : decode cX2_startOver 12 = .ok (.getfield 41, 3) := by decide +kernel
theorem dX2_startOver_15 : decode cX2_startOver 15 = .ok (.aload_n 1, 1) := by decide +kernel
theorem dX2_startOver_16 : decode cX2_startOver 16 = .ok (.invokevirtual 92, 3) := by decide +kernel
theorem dX2_startOver_19 : decode cX2_startOver 19 = .ok (.putfield 38, 3) := by decide +kernel
theorem dX2_startOver_22 : decode cX2_startOver 22 = .ok (.return_, 1) := by decide +kernel
theorem dX2_tryShortChain_0 : decode cX2_tryShortChain 0 = .ok (.aload_n 1, 1) := by decide +kernel
theorem dX2_tryShortChain_1 : decode cX2_tryShortChain 1 = .ok (.getfield 66, 3) := by decide +kernel
theorem dX2_tryShortChain_4 : decode cX2_tryShortChain 4 = .ok (.iload_n 3, 1) := by decide +kernel
theorem dX2_tryShortChain_5 : decode cX2_tryShortChain 5 = .ok (.iaload, 1) := by decide +kernel
theorem dX2_tryShortChain_6 : decode cX2_tryShortChain 6 = .ok (.istore 4, 2) := by decide +kernel
theorem dX2_tryShortChain_8 : decode cX2_tryShortChain 8 = .ok (.aload_n 0, 1) := by decide +kernel
theorem dX2_tryShortChain_9 : decode cX2_tryShortChain 9 = .ok (.getfield 35, 3) := by decide +kernel
theorem dX2_tryShortChain_12 : decode cX2_tryShortChain 12 = .ok (.aload_n 1, 1) := by decide +kernel
theorem dX2_tryShortChain_13 : decode cX2_tryShortChain 13 = .ok (.invokevirtual 70, 3) := by decide +kernel
theorem dX2_tryShortChain_16 : decode cX2_tryShortChain 16 = .ok (.aload_n 0, 1) := by decide +kernel
theorem dX2_tryShortChain_17 : decode cX2_tryShortChain 17 = .ok (.aload_n 0, 1) := by decide +kernel
theorem dX2_tryShortChain_18 : decode cX2_tryShortChain 18 = .ok (.getfield 35, 3) := by decide +kernel
theorem dX2_tryShortChain_21 : decode cX2_tryShortChain 21 = .ok (.iload_n 2, 1) := by decide +kernel
theorem dX2_tryShortChain_22 : decode cX2_tryShortChain 22 = .ok (.iload_n 3, 1) := by decide +kernel
theorem dX2_tryShortChain_23 : decode cX2_tryShortChain 23 = .ok (.invokevirtual 96, 3) := by decide +kernel
theorem dX2_tryShortChain_26 : decode cX2_tryShortChain 26 = .ok (.ifCond .eq 39, 3) := by decide +kernel
theorem dX2_tryShortChain_29 : decode cX2_tryShortChain 29 = .ok (.aload_n 0, 1) := by decide +kernel
theorem dX2_tryShortChain_30 : decode cX2_tryShortChain 30 = .ok (.getfield 45, 3) := by decide +kernel
theorem dX2_tryShortChain_33 : decode cX2_tryShortChain 33 = .ok (.iload 4, 2) := by decide +kernel
theorem dX2_tryShortChain_35 : decode cX2_tryShortChain 35 = .ok (.aload_n 0, 1) := by decide +kernel
theorem dX2_tryShortChain_36 : decode cX2_tryShortChain 36 = .ok (.getfield 35, 3) := by decide +kernel
theorem dX2_tryShortChain_39 : decode cX2_tryShortChain 39 = .ok (.iload_n 3, 1) := by decide +kernel
theorem dX2_tryShortChain_40 : decode cX2_tryShortChain 40 = .ok (.invokevirtual 78, 3) := by decide +kernel
theorem dX2_tryShortChain_43 : decode cX2_tryShortChain 43 = .ok (.aload_n 0, 1) := by decide +kernel
theorem dX2_tryShortChain_44 : decode cX2_tryShortChain 44 = .ok (.getfield 45, 3) := by decide +kernel
theorem dX2_tryShortChain_47 : decode cX2_tryShortChain 47 = .ok (.aload_n 0, 1) := by decide +kernel
theorem dX2_tryShortChain_48 : decode cX2_tryShortChain 48 = .ok (.getfield 35, 3) := by decide +kernel
theorem dX2_tryShortChain_51 : decode cX2_tryShortChain 51 = .ok (.iload_n 3, 1) := by decide +kernel
theorem dX2_tryShortChain_52 : decode cX2_tryShortChain 52 = .ok (.invokevirtual 84, 3) := by decide +kernel
theorem dX2_tryShortChain_55 : decode cX2_tryShortChain 55 = .ok (.ifCond .eq 10, 3) := by decide +kernel
theorem dX2_tryShortChain_58 : decode cX2_tryShortChain 58 = .ok (.aload_n 0, 1) := by decide +kernel
theorem dX2_tryShortChain_59 : decode cX2_tryShortChain 59 = .ok (.iload_n 3, 1) := by decide +kernel
theorem dX2_tryShortChain_60 : decode cX2_tryShortChain 60 = .ok (.bipush 99, 2) := by decide +kernel
theorem dX2_tryShortChain_62 : decode cX2_tryShortChain 62 = .ok (.invokevirtual 88, 3) := by decide +kernel
theorem dX2_tryShortChain_65 : decode cX2_tryShortChain 65 = .ok (.return_, 1) := by decide +kernel
theorem dX2_tryLongChains_0 : decode cX2_tryLongChains 0 = .ok (.aload_n 0, 1) := by decide +kernel
theorem dX2_tryLongChains_1 : decode cX2_tryLongChains 1 = .ok (.getfield 32, 3) := by decide +kernel
theorem dX2_tryLongChains_4 : decode cX2_tryLongChains 4 = .ok (.aload_n 1, 1) := by decide +kernel
theorem dX2_tryLongChains_5 : decode cX2_tryLongChains 5 = .ok (.invokevirtual 70, 3) := by decide +kernel
theorem dX2_tryLongChains_8 : decode cX2_tryLongChains 8 = .ok (.aload_n 0, 1) := by decide +kernel
theorem dX2_tryLongChains_9 : decode cX2_tryLongChains 9 = .ok (.aload_n 0, 1) := by decide +kernel
theorem dX2_tryLongChains_10 : decode cX2_tryLongChains 10 = .ok (.getfield 32, 3) := by decide +kernel
theorem dX2_tryLongChains_13 : decode cX2_tryLongChains 13 = .ok (.iload_n 2, 1) := by decide +kernel
theorem dX2_tryLongChains_14 : decode cX2_tryLongChains 14 = .ok (.iload_n 3, 1) := by decide +kernel
theorem dX2_tryLongChains_15 : decode cX2_tryLongChains 15 = .ok (.invokevirtual 96, 3) := by decide +kernel
theorem dX2_tryLongChains_18 : decode cX2_tryLongChains 18 = .ok (.ifCond .ne 4, 3) := by decide +kernel
theorem dX2_tryLongChains_21 : decode cX2_tryLongChains 21 = .ok (.return_, 1) := by decide +kernel
theorem dX2_tryLongChains_22 : decode cX2_tryLongChains 22 = .ok (.iconst 0, 1) := by decide +kernel
theorem dX2_tryLongChains_23 : decode cX2_tryLongChains 23 = .ok (.istore 4, 2) := by decide +kernel
theorem dX2_tryLongChains_25 : decode cX2_tryLongChains 25 = .ok (.iload 4, 2) := by decide +kernel
theorem dX2_tryLongChains_27 : decode cX2_tryLongChains 27 = .ok (.aload_n 0, 1) := by decide +kernel
theorem dX2_tryLongChains_28 : decode cX2_tryLongChains 28 = .ok (.getfield 41, 3) := by decide +kernel
theorem dX2_tryLongChains_31 : decode cX2_tryLongChains 31 = .ok (.getfield 54, 3) := by decide +kernel
theorem dX2_tryLongChains_34 : decode cX2_tryLongChains 34 = .ok (.if_icmp .ge 101, 3) := by decide +kernel
theorem dX2_tryLongChains_37 : decode cX2_tryLongChains 37 = .ok (.aload_n 1, 1) := by decide +kernel
theorem dX2_tryLongChains_38 : decode cX2_tryLongChains 38 = .ok (.getfield 66, 3) := by decide +kernel
theorem dX2_tryLongChains_41 : decode cX2_tryLongChains 41 = .ok (.iload 4, 2) := by decide +kernel
theorem dX2_tryLongChains_43 : decode cX2_tryLongChains 43 = .ok (.iaload, 1) := by decide +kernel
theorem dX2_tryLongChains_44 : decode cX2_tryLongChains 44 = .ok (.istore 5, 2) := by decide +kernel
theorem dX2_tryLongChains_46 : decode cX2_tryLongChains 46 = .ok (.iload 5, 2) := by decide +kernel
theorem dX2_tryLongChains_48 : decode cX2_tryLongChains 48 = .ok (.iconst (-1), 1) := by decide +kernel
theorem dX2_tryLongChains_49 : decode cX2_tryLongChains 49 = .ok (.if_icmp .eq 80, 3) := by decide +kernel
theorem dX2_tryLongChains_52 : decode cX2_tryLongChains 52 = .ok (.iload 5, 2) := by decide +kernel
theorem dX2_tryLongChains_54 : decode cX2_tryLongChains 54 = .ok (.aload_n 1, 1) := by decide +kernel
theorem dX2_tryLongChains_55 : decode cX2_tryLongChains 55 = .ok (.getfield 66, 3) := by decide +kernel
theorem dX2_tryLongChains_58 : decode cX2_tryLongChains 58 = .ok (.iload_n 3, 1) := by decide +kernel
theorem dX2_tryLongChains_59 : decode cX2_tryLongChains 59 = .ok (.iaload, 1) := by decide +kernel
theorem dX2_tryLongChains_60 : decode cX2_tryLongChains 60 = .ok (.if_icmp .ne 6, 3) := by decide +kernel
theorem dX2_tryLongChains_63 : decode cX2_tryLongChains 63 = .ok (.goto 66, 3) := by decide +kernel
theorem dX2_tryLongChains_66 : decode cX2_tryLongChains 66 = .ok (.aload_n 0, 1) := by decide +kernel
theorem dX2_tryLongChains_67 : decode cX2_tryLongChains 67 = .ok (.getfield 35, 3) := by decide +kernel
theorem dX2_tryLongChains_70 : decode cX2_tryLongChains 70 = .ok (.aload_n 0, 1) := by decide +kernel
theorem dX2_tryLongChains_71 : decode cX2_tryLongChains 71 = .ok (.getfield 32, 3) := by decide +kernel
theorem dX2_tryLongChains_74 : decode cX2_tryLongChains 74 = .ok (.invokevirtual 70, 3) := by decide +kernel
theorem dX2_tryLongChains_77 : decode cX2_tryLongChains 77 = .ok (.aload_n 0, 1) := by decide +kernel
theorem dX2_tryLongChains_78 : decode cX2_tryLongChains 78 = .ok (.aload_n 0, 1) := by decide +kernel
theorem dX2_tryLongChains_79 : decode cX2_tryLongChains 79 = .ok (.getfield 35, 3) := by decide +kernel
theorem dX2_tryLongChains_82 : decode cX2_tryLongChains 82 = .ok (.iload_n 3, 1) := by decide +kernel
theorem dX2_tryLongChains_83 : decode cX2_tryLongChains 83 = .ok (.iload 4, 2) := by decide +kernel
theorem dX2_tryLongChains_85 : decode cX2_tryLongChains 85 = .ok (.invokevirtual 96, 3) := by decide +kernel
theorem dX2_tryLongChains_88 : decode cX2_tryLongChains 88 = .ok (.ifCond .eq 41, 3) := by decide +kernel
theorem dX2_tryLongChains_91 : decode cX2_tryLongChains 91 = .ok (.aload_n 0, 1) := by decide +kernel
theorem dX2_tryLongChains_92 : decode cX2_tryLongChains 92 = .ok (.getfield 45, 3) := by decide +kernel
theorem dX2_tryLongChains_95 : decode cX2_tryLongChains 95 = .ok (.iload 5, 2) := by decide +kernel
theorem dX2_tryLongChains_97 : decode cX2_tryLongChains 97 = .ok (.aload_n 0, 1) := by decide +kernel
theorem dX2_tryLongChains_98 : decode cX2_tryLongChains 98 = .ok (.getfield 35, 3) := by decide +kernel
theorem dX2_tryLongChains_101 : decode cX2_tryLongChains 101 = .ok (.iload 4, 2) := by decide +kernel
theorem dX2_tryLongChains_103 : decode cX2_tryLongChains 103 = .ok (.invokevirtual 78, 3) := by decide +kernel
theorem dX2_tryLongChains_106 : decode cX2_tryLongChains 106 = .ok (.aload_n 0, 1) := by decide +kernel
theorem dX2_tryLongChains_107 : decode cX2_tryLongChains 107 = .ok (.getfield 45, 3) := by decide +kernel
theorem dX2_tryLongChains_110 : decode cX2_tryLongChains 110 = .ok (.aload_n 0, 1) := by decide +kernel
theorem dX2_tryLongChains_111 : decode cX2_tryLongChains 111 = .ok (.getfield 35, 3) := by decide +kernel
theorem dX2_tryLongChains_114 : decode cX2_tryLongChains 114 = .ok (.iload 4, 2) := by decide +kernel
theorem dX2_tryLongChains_116 : decode cX2_tryLongChains 116 = .ok (.invokevirtual 84, 3) := by decide +kernel
theorem dX2_tryLongChains_119 : decode cX2_tryLongChains 119 = .ok (.ifCond .eq 10, 3) := by decide +kernel
theorem dX2_tryLongChains_122 : decode cX2_tryLongChains 122 = .ok (.aload_n 0, 1) := by decide +kernel
theorem dX2_tryLongChains_123 : decode cX2_tryLongChains 123 = .ok (.iload_n 3, 1) := by decide +kernel
theorem dX2_tryLongChains_124 : decode cX2_tryLongChains 124 = .ok (.iload 4, 2) := by decide +kernel
theorem dX2_tryLongChains_126 : decode cX2_tryLongChains 126 = .ok (.invokevirtual 88, 3) := by decide +kernel
theorem dX2_tryLongChains_129 : decode cX2_tryLongChains 129 = .ok (.iinc 4 1, 3) := by decide +kernel
theorem dX2_tryLongChains_132 : decode cX2_tryLongChains 132 = .ok (.goto (-107), 3) := by decide +kernel
theorem dX2_tryLongChains_135 : decode cX2_tryLongChains 135 = .ok (.return_, 1) := by decide +kernel
theorem dX2_displace_0 : decode cX2_displace 0 = .ok (.aload_n 1, 1) := by decide +kernel
theorem dX2_displace_1 : decode cX2_displace 1 = .ok (.getfield 66, 3) := by decide +kernel
theorem dX2_displace_4 : decode cX2_displace 4 = .ok (.iload_n 3, 1) := by decide +kernel
theorem dX2_displace_5 : decode cX2_displace 5 = .ok (.iaload, 1) := by decide +kernel
theorem dX2_displace_6 : decode cX2_displace 6 = .ok (.istore 4, 2) := by decide +kernel
theorem dX2_displace_8 : decode cX2_displace 8 = .ok (.iload 4, 2) := by decide +kernel
theorem dX2_displace_10 : decode cX2_displace 10 = .ok (.iconst (-1), 1) := by decide +kernel
theorem dX2_displace_11 : decode cX2_displace 11 = .ok (.if_icmp .ne 5, 3) := by decide +kernel
theorem dX2_displace_14 : decode cX2_displace 14 = .ok (.iconst 0, 1) := by decide +kernel
theorem dX2_displace_15 : decode cX2_displace 15 = .ok (.ireturn, 1) := by decide +kernel
theorem dX2_displace_16 : decode cX2_displace 16 = .ok (.aload_n 1, 1) := by decide +kernel
theorem dX2_displace_17 : decode cX2_displace 17 = .ok (.iload_n 3, 1) := by decide +kernel
theorem dX2_displace_18 : decode cX2_displace 18 = .ok (.invokevirtual 74, 3) := by decide +kernel
theorem dX2_displace_21 : decode cX2_displace 21 = .ok (.aload_n 0, 1) := by decide +kernel
theorem dX2_displace_22 : decode cX2_displace 22 = .ok (.getfield 45, 3) := by decide +kernel
theorem dX2_displace_25 : decode cX2_displace 25 = .ok (.invokevirtual 100, 3) := by decide +kernel
theorem dX2_displace_28 : decode cX2_displace 28 = .ok (.aload_n 0, 1) := by decide +kernel
theorem dX2_displace_29 : decode cX2_displace 29 = .ok (.getfield 45, 3) := by decide +kernel
theorem dX2_displace_32 : decode cX2_displace 32 = .ok (.aload_n 1, 1) := by decide +kernel
theorem dX2_displace_33 : decode cX2_displace 33 = .ok (.getfield 102, 3) := by decide +kernel
theorem dX2_displace_36 : decode cX2_displace 36 = .ok (.iload 4, 2) := by decide +kernel
theorem dX2_displace_38 : decode cX2_displace 38 = .ok (.aaload, 1) := by decide +kernel
theorem dX2_displace_39 : decode cX2_displace 39 = .ok (.iload_n 2, 1) := by decide +kernel
theorem dX2_displace_40 : decode cX2_displace 40 = .ok (.invokevirtual 106, 3) := by decide +kernel
theorem dX2_displace_43 : decode cX2_displace 43 = .ok (.aload_n 0, 1) := by decide +kernel
theorem dX2_displace_44 : decode cX2_displace 44 = .ok (.getfield 45, 3) := by decide +kernel
theorem dX2_displace_47 : decode cX2_displace 47 = .ok (.aload_n 1, 1) := by decide +kernel
theorem dX2_displace_48 : decode cX2_displace 48 = .ok (.iload_n 2, 1) := by decide +kernel
theorem dX2_displace_49 : decode cX2_displace 49 = .ok (.invokevirtual 84, 3) := by decide +kernel
theorem dX2_displace_52 : decode cX2_displace 52 = .ok (.ireturn, 1) := by decide +kernel
theorem dX2_keepIfBest_0 : decode cX2_keepIfBest 0 = .ok (.aload_n 0, 1) := by decide +kernel
theorem dX2_keepIfBest_1 : decode cX2_keepIfBest 1 = .ok (.getfield 41, 3) := by decide +kernel
theorem dX2_keepIfBest_4 : decode cX2_keepIfBest 4 = .ok (.aload_n 0, 1) := by decide +kernel
theorem dX2_keepIfBest_5 : decode cX2_keepIfBest 5 = .ok (.getfield 35, 3) := by decide +kernel
theorem dX2_keepIfBest_8 : decode cX2_keepIfBest 8 = .ok (.invokevirtual 92, 3) := by decide +kernel
theorem dX2_keepIfBest_11 : decode cX2_keepIfBest 11 = .ok (.aload_n 0, 1) := by decide +kernel
theorem dX2_keepIfBest_12 : decode cX2_keepIfBest 12 = .ok (.getfield 38, 3) := by decide +kernel
theorem dX2_keepIfBest_15 : decode cX2_keepIfBest 15 = .ok (.isub, 1) := by decide +kernel
theorem dX2_keepIfBest_16 : decode cX2_keepIfBest 16 = .ok (.istore_n 3, 1) := by decide +kernel
theorem dX2_keepIfBest_17 : decode cX2_keepIfBest 17 = .ok (.iload_n 3, 1) := by decide +kernel
theorem dX2_keepIfBest_18 : decode cX2_keepIfBest 18 = .ok (.aload_n 0, 1) := by decide +kernel
theorem dX2_keepIfBest_19 : decode cX2_keepIfBest 19 = .ok (.getfield 15, 3) := by decide +kernel
theorem dX2_keepIfBest_22 : decode cX2_keepIfBest 22 = .ok (.if_icmp .ge 34, 3) := by decide +kernel
theorem dX2_keepIfBest_25 : decode cX2_keepIfBest 25 = .ok (.aload_n 0, 1) := by decide +kernel
theorem dX2_keepIfBest_26 : decode cX2_keepIfBest 26 = .ok (.iconst 1, 1) := by decide +kernel
theorem dX2_keepIfBest_27 : decode cX2_keepIfBest 27 = .ok (.putfield 9, 3) := by decide +kernel
theorem dX2_keepIfBest_30 : decode cX2_keepIfBest 30 = .ok (.aload_n 0, 1) := by decide +kernel
theorem dX2_keepIfBest_31 : decode cX2_keepIfBest 31 = .ok (.iload_n 3, 1) := by decide +kernel
theorem dX2_keepIfBest_32 : decode cX2_keepIfBest 32 = .ok (.putfield 15, 3) := by decide +kernel
theorem dX2_keepIfBest_35 : decode cX2_keepIfBest 35 = .ok (.aload_n 0, 1) := by decide +kernel
theorem dX2_keepIfBest_36 : decode cX2_keepIfBest 36 = .ok (.iload_n 1, 1) := by decide +kernel
theorem dX2_keepIfBest_37 : decode cX2_keepIfBest 37 = .ok (.putfield 19, 3) := by decide +kernel
theorem dX2_keepIfBest_40 : decode cX2_keepIfBest 40 = .ok (.aload_n 0, 1) := by decide +kernel
theorem dX2_keepIfBest_41 : decode cX2_keepIfBest 41 = .ok (.iload_n 2, 1) := by decide +kernel
theorem dX2_keepIfBest_42 : decode cX2_keepIfBest 42 = .ok (.putfield 22, 3) := by decide +kernel
theorem dX2_keepIfBest_45 : decode cX2_keepIfBest 45 = .ok (.aload_n 0, 1) := by decide +kernel
theorem dX2_keepIfBest_46 : decode cX2_keepIfBest 46 = .ok (.getfield 28, 3) := by decide +kernel
theorem dX2_keepIfBest_49 : decode cX2_keepIfBest 49 = .ok (.aload_n 0, 1) := by decide +kernel
theorem dX2_keepIfBest_50 : decode cX2_keepIfBest 50 = .ok (.getfield 35, 3) := by decide +kernel
theorem dX2_keepIfBest_53 : decode cX2_keepIfBest 53 = .ok (.invokevirtual 70, 3) := by decide +kernel
theorem dX2_keepIfBest_56 : decode cX2_keepIfBest 56 = .ok (.return_, 1) := by decide +kernel
theorem dX3_init_0 : decode cX3_init 0 = .ok (.aload_n 0, 1) := by decide +kernel
theorem dX3_init_1 : decode cX3_init 1 = .ok (.invokespecial 3, 3) := by decide +kernel
theorem dX3_init_4 : decode cX3_init 4 = .ok (.aload_n 0, 1) := by decide +kernel
theorem dX3_init_5 : decode cX3_init 5 = .ok (.iconst 4, 1) := by decide +kernel
theorem dX3_init_6 : decode cX3_init 6 = .ok (.anewarray 9, 3) := by decide +kernel
theorem dX3_init_9 : decode cX3_init 9 = .ok (.putfield 11, 3) := by decide +kernel
theorem dX3_init_12 : decode cX3_init 12 = .ok (.aload_n 0, 1) := by decide +kernel
theorem dX3_init_13 : decode cX3_init 13 = .ok (.bipush 12, 2) := by decide +kernel
theorem dX3_init_15 : decode cX3_init 15 = .ok (.newarray .int, 2) := by decide +kernel
theorem dX3_init_17 : decode cX3_init 17 = .ok (.putfield 17, 3) := by decide +kernel
theorem dX3_init_20 : decode cX3_init 20 = .ok (.iconst 0, 1) := by decide +kernel
theorem dX3_init_21 : decode cX3_init 21 = .ok (.istore_n 1, 1) := by decide +kernel
theorem dX3_init_22 : decode cX3_init 22 = .ok (.iload_n 1, 1) := by decide +kernel
theorem dX3_init_23 : decode cX3_init 23 = .ok (.iconst 4, 1) := by decide +kernel
theorem dX3_init_24 : decode cX3_init 24 = .ok (.if_icmp .ge 23, 3) := by decide +kernel
theorem dX3_init_27 : decode cX3_init 27 = .ok (.aload_n 0, 1) := by decide +kernel
theorem dX3_init_28 : decode cX3_init 28 = .ok (.getfield 11, 3) := by decide +kernel
theorem dX3_init_31 : decode cX3_init 31 = .ok (.iload_n 1, 1) := by decide +kernel
theorem dX3_init_32 : decode cX3_init 32 = .ok (.new 9, 3) := by decide +kernel
theorem dX3_init_35 : decode cX3_init 35 = .ok (.dup, 1) := by decide +kernel
theorem dX3_init_36 : decode cX3_init 36 = .ok (.iload_n 1, 1) := by decide +kernel
theorem dX3_init_37 : decode cX3_init 37 = .ok (.invokespecial 21, 3) := by decide +kernel
theorem dX3_init_40 : decode cX3_init 40 = .ok (.aastore, 1) := by decide +kernel
theorem dX3_init_41 : decode cX3_init 41 = .ok (.iinc 1 1, 3) := by decide +kernel
theorem dX3_init_44 : decode cX3_init 44 = .ok (.goto (-22), 3) := by decide +kernel
theorem dX3_init_47 : decode cX3_init 47 = .ok (.iconst 0, 1) := by decide +kernel
theorem dX3_init_48 : decode cX3_init 48 = .ok (.istore_n 1, 1) := by decide +kernel
theorem dX3_init_49 : decode cX3_init 49 = .ok (.iload_n 1, 1) := by decide +kernel
theorem dX3_init_50 : decode cX3_init 50 = .ok (.bipush 12, 2) := by decide +kernel
theorem dX3_init_52 : decode cX3_init 52 = .ok (.if_icmp .ge 16, 3) := by decide +kernel
theorem dX3_init_55 : decode cX3_init 55 = .ok (.aload_n 0, 1) := by decide +kernel
theorem dX3_init_56 : decode cX3_init 56 = .ok (.getfield 17, 3) := by decide +kernel
theorem dX3_init_59 : decode cX3_init 59 = .ok (.iload_n 1, 1) := by decide +kernel
theorem dX3_init_60 : decode cX3_init 60 = .ok (.iconst (-1), 1) := by decide +kernel
theorem dX3_init_61 : decode cX3_init 61 = .ok (.iastore, 1) := by decide +kernel
theorem dX3_init_62 : decode cX3_init 62 = .ok (.iinc 1 1, 3) := by decide +kernel
theorem dX3_init_65 : decode cX3_init 65 = .ok (.goto (-16), 3) := by decide +kernel
theorem dX3_init_68 : decode cX3_init 68 = .ok (.return_, 1) := by decide +kernel
theorem dX3_become_0 : decode cX3_become 0 = .ok (.iconst 0, 1) := by decide +kernel
theorem dX3_become_1 : decode cX3_become 1 = .ok (.istore_n 2, 1) := by decide +kernel
theorem dX3_become_2 : decode cX3_become 2 = .ok (.iload_n 2, 1) := by decide +kernel
theorem dX3_become_3 : decode cX3_become 3 = .ok (.iconst 4, 1) := by decide +kernel
theorem dX3_become_4 : decode cX3_become 4 = .ok (.if_icmp .ge 24, 3) := by decide +kernel
theorem dX3_become_7 : decode cX3_become 7 = .ok (.aload_n 0, 1) := by decide +kernel
theorem dX3_become_8 : decode cX3_become 8 = .ok (.getfield 11, 3) := by decide +kernel
theorem dX3_become_11 : decode cX3_become 11 = .ok (.iload_n 2, 1) := by decide +kernel
theorem dX3_become_12 : decode cX3_become 12 = .ok (.aaload, 1) := by decide +kernel
theorem dX3_become_13 : decode cX3_become 13 = .ok (.aload_n 1, 1) := by decide +kernel
theorem dX3_become_14 : decode cX3_become 14 = .ok (.getfield 11, 3) := by decide +kernel
theorem dX3_become_17 : decode cX3_become 17 = .ok (.iload_n 2, 1) := by decide +kernel
theorem dX3_become_18 : decode cX3_become 18 = .ok (.aaload, 1) := by decide +kernel
theorem dX3_become_19 : decode cX3_become 19 = .ok (.invokevirtual 24, 3) := by decide +kernel
theorem dX3_become_22 : decode cX3_become 22 = .ok (.iinc 2 1, 3) := by decide +kernel
theorem dX3_become_25 : decode cX3_become 25 = .ok (.goto (-23), 3) := by decide +kernel
theorem dX3_become_28 : decode cX3_become 28 = .ok (.aload_n 1, 1) := by decide +kernel
theorem dX3_become_29 : decode cX3_become 29 = .ok (.getfield 17, 3) := by decide +kernel
theorem dX3_become_32 : decode cX3_become 32 = .ok (.iconst 0, 1) := by decide +kernel
theorem dX3_become_33 : decode cX3_become 33 = .ok (.aload_n 0, 1) := by decide +kernel
theorem dX3_become_34 : decode cX3_become 34 = .ok (.getfield 17, 3) := by decide +kernel
theorem dX3_become_37 : decode cX3_become 37 = .ok (.iconst 0, 1) := by decide +kernel
theorem dX3_become_38 : decode cX3_become 38 = .ok (.bipush 12, 2) := by decide +kernel
theorem dX3_become_40 : decode cX3_become 40 = .ok (.invokestatic 28, 3) := by decide +kernel
theorem dX3_become_43 : decode cX3_become 43 = .ok (.return_, 1) := by decide +kernel
theorem dX3_put_0 : decode cX3_put 0 = .ok (.iload_n 2, 1) := by decide +kernel
theorem dX3_put_1 : decode cX3_put 1 = .ok (.iconst (-1), 1) := by decide +kernel
theorem dX3_put_2 : decode cX3_put 2 = .ok (.if_icmp .ne 4, 3) := by decide +kernel
theorem dX3_put_5 : decode cX3_put 5 = .ok (.return_, 1) := by decide +kernel
theorem dX3_put_6 : decode cX3_put 6 = .ok (.aload_n 0, 1) := by decide +kernel
theorem dX3_put_7 : decode cX3_put 7 = .ok (.getfield 11, 3) := by decide +kernel
theorem dX3_put_10 : decode cX3_put 10 = .ok (.iload_n 2, 1) := by decide +kernel
theorem dX3_put_11 : decode cX3_put 11 = .ok (.aaload, 1) := by decide +kernel
theorem dX3_put_12 : decode cX3_put 12 = .ok (.iload_n 1, 1) := by decide +kernel
theorem dX3_put_13 : decode cX3_put 13 = .ok (.iload_n 3, 1) := by decide +kernel
theorem dX3_put_14 : decode cX3_put 14 = .ok (.iload 4, 2) := by decide +kernel
theorem dX3_put_16 : decode cX3_put 16 = .ok (.invokevirtual 34, 3) := by decide +kernel
theorem dX3_put_19 : decode cX3_put 19 = .ok (.aload_n 0, 1) := by decide +kernel
theorem dX3_put_20 : decode cX3_put 20 = .ok (.getfield 17, 3) := by decide +kernel
theorem dX3_put_23 : decode cX3_put 23 = .ok (.iload_n 1, 1) := by decide +kernel
theorem dX3_put_24 : decode cX3_put 24 = .ok (.iload_n 2, 1) := by decide +kernel
theorem dX3_put_25 : decode cX3_put 25 = .ok (.iastore, 1) := by decide +kernel
theorem dX3_put_26 : decode cX3_put 26 = .ok (.return_, 1) := by decide +kernel
theorem dX3_take_0 : decode cX3_take 0 = .ok (.aload_n 0, 1) := by decide +kernel
theorem dX3_take_1 : decode cX3_take 1 = .ok (.getfield 17, 3) := by decide +kernel
theorem dX3_take_4 : decode cX3_take 4 = .ok (.iload_n 1, 1) := by decide +kernel
theorem dX3_take_5 : decode cX3_take 5 = .ok (.iaload, 1) := by decide +kernel
theorem dX3_take_6 : decode cX3_take 6 = .ok (.iconst (-1), 1) := by decide +kernel
theorem dX3_take_7 : decode cX3_take 7 = .ok (.if_icmp .ne 4, 3) := by decide +kernel
theorem dX3_take_10 : decode cX3_take 10 = .ok (.return_, 1) := by decide +kernel
theorem dX3_take_11 : decode cX3_take 11 = .ok (.aload_n 0, 1) := by decide +kernel
theorem dX3_take_12 : decode cX3_take 12 = .ok (.getfield 11, 3) := by decide +kernel
theorem dX3_take_15 : decode cX3_take 15 = .ok (.aload_n 0, 1) := by decide +kernel
theorem dX3_take_16 : decode cX3_take 16 = .ok (.getfield 17, 3) := by decide +kernel
theorem dX3_take_19 : decode cX3_take 19 = .ok (.iload_n 1, 1) := by decide +kernel
theorem dX3_take_20 : decode cX3_take 20 = .ok (.iaload, 1) := by decide +kernel
theorem dX3_take_21 : decode cX3_take 21 = .ok (.aaload, 1) := by decide +kernel
theorem dX3_take_22 : decode cX3_take 22 = .ok (.iload_n 1, 1) := by decide +kernel
theorem dX3_take_23 : decode cX3_take 23 = .ok (.invokevirtual 38, 3) := by decide +kernel
theorem dX3_take_26 : decode cX3_take 26 = .ok (.aload_n 0, 1) := by decide +kernel
theorem dX3_take_27 : decode cX3_take 27 = .ok (.getfield 17, 3) := by decide +kernel
theorem dX3_take_30 : decode cX3_take 30 = .ok (.iload_n 1, 1) := by decide +kernel
theorem dX3_take_31 : decode cX3_take 31 = .ok (.iconst (-1), 1) := by decide +kernel
theorem dX3_take_32 : decode cX3_take 32 = .ok (.iastore, 1) := by decide +kernel
theorem dX3_take_33 : decode cX3_take 33 = .ok (.return_, 1) := by decide +kernel
theorem dX3_requestsOf_0 : decode cX3_requestsOf 0 = .ok (.iconst 0, 1) := by decide +kernel
theorem dX3_requestsOf_1 : decode cX3_requestsOf 1 = .ok (.istore_n 2, 1) := by decide +kernel
theorem dX3_requestsOf_2 : decode cX3_requestsOf 2 = .ok (.iconst 0, 1) := by decide +kernel
theorem dX3_requestsOf_3 : decode cX3_requestsOf 3 = .ok (.istore_n 3, 1) := by decide +kernel
theorem dX3_requestsOf_4 : decode cX3_requestsOf 4 = .ok (.iload_n 3, 1) := by decide +kernel
theorem dX3_requestsOf_5 : decode cX3_requestsOf 5 = .ok (.bipush 12, 2) := by decide +kernel
theorem dX3_requestsOf_7 : decode cX3_requestsOf 7 = .ok (.if_icmp .ge 25, 3) := by decide +kernel
theorem dX3_requestsOf_10 : decode cX3_requestsOf 10 = .ok (.aload_n 0, 1) := by decide +kernel
theorem dX3_requestsOf_11 : decode cX3_requestsOf 11 = .ok (.getfield 17, 3) := by decide +kernel
theorem dX3_requestsOf_14 : decode cX3_requestsOf 14 = .ok (.iload_n 3, 1) := by decide +kernel
theorem dX3_requestsOf_15 : decode cX3_requestsOf 15 = .ok (.iaload, 1) := by decide +kernel
theorem dX3_requestsOf_16 : decode cX3_requestsOf 16 = .ok (.iload_n 1, 1) := by decide +kernel
theorem dX3_requestsOf_17 : decode cX3_requestsOf 17 = .ok (.if_icmp .ne 9, 3) := by decide +kernel
theorem dX3_requestsOf_20 : decode cX3_requestsOf 20 = .ok (.iload_n 2, 1) := by decide +kernel
theorem dX3_requestsOf_21 : decode cX3_requestsOf 21 = .ok (.iconst 1, 1) := by decide +kernel
theorem dX3_requestsOf_22 : decode cX3_requestsOf 22 = .ok (.iload_n 3, 1) := by decide +kernel
theorem dX3_requestsOf_23 : decode cX3_requestsOf 23 = .ok (.ishl, 1) := by decide +kernel
theorem dX3_requestsOf_24 : decode cX3_requestsOf 24 = .ok (.ior, 1) := by decide +kernel
theorem dX3_requestsOf_25 : decode cX3_requestsOf 25 = .ok (.istore_n 2, 1) := by decide +kernel
theorem dX3_requestsOf_26 : decode cX3_requestsOf 26 = .ok (.iinc 3 1, 3) := by decide +kernel
theorem dX3_requestsOf_29 : decode cX3_requestsOf 29 = .ok (.goto (-25), 3) := by decide +kernel
theorem dX3_requestsOf_32 : decode cX3_requestsOf 32 = .ok (.iload_n 2, 1) := by decide +kernel
theorem dX3_requestsOf_33 : decode cX3_requestsOf 33 = .ok (.ireturn, 1) := by decide +kernel
theorem dX4_init_0 : decode cX4_init 0 = .ok (.aload_n 0, 1) := by decide +kernel
theorem dX4_init_1 : decode cX4_init 1 = .ok (.invokespecial 3, 3) := by decide +kernel
theorem dX4_init_4 : decode cX4_init 4 = .ok (.aload_n 0, 1) := by decide +kernel
theorem dX4_init_5 : decode cX4_init 5 = .ok (.iconst 0, 1) := by decide +kernel
theorem dX4_init_6 : decode cX4_init 6 = .ok (.putfield 9, 3) := by decide +kernel
theorem dX4_init_9 : decode cX4_init 9 = .ok (.aload_n 0, 1) := by decide +kernel
theorem dX4_init_10 : decode cX4_init 10 = .ok (.iconst 0, 1) := by decide +kernel
theorem dX4_init_11 : decode cX4_init 11 = .ok (.putfield 15, 3) := by decide +kernel
theorem dX4_init_14 : decode cX4_init 14 = .ok (.aload_n 0, 1) := by decide +kernel
theorem dX4_init_15 : decode cX4_init 15 = .ok (.iconst 1, 1) := by decide +kernel
theorem dX4_init_16 : decode cX4_init 16 = .ok (.putfield 18, 3) := by decide +kernel
theorem dX4_init_19 : decode cX4_init 19 = .ok (.aload_n 0, 1) := by decide +kernel
theorem dX4_init_20 : decode cX4_init 20 = .ok (.iconst 4, 1) := by decide +kernel
theorem dX4_init_21 : decode cX4_init 21 = .ok (.newarray .int, 2) := by decide +kernel
theorem dX4_init_23 : decode cX4_init 23 = .ok (.putfield 21, 3) := by decide +kernel
theorem dX4_init_26 : decode cX4_init 26 = .ok (.aload_n 0, 1) := by decide +kernel
theorem dX4_init_27 : decode cX4_init 27 = .ok (.iconst 4, 1) := by decide +kernel
theorem dX4_init_28 : decode cX4_init 28 = .ok (.newarray .int, 2) := by decide +kernel
theorem dX4_init_30 : decode cX4_init 30 = .ok (.putfield 25, 3) := by decide +kernel
theorem dX4_init_33 : decode cX4_init 33 = .ok (.aload_n 0, 1) := by decide +kernel
theorem dX4_init_34 : decode cX4_init 34 = .ok (.iconst 4, 1) := by decide +kernel
theorem dX4_init_35 : decode cX4_init 35 = .ok (.newarray .int, 2) := by decide +kernel
theorem dX4_init_37 : decode cX4_init 37 = .ok (.putfield 28, 3) := by decide +kernel
theorem dX4_init_40 : decode cX4_init 40 = .ok (.aload_n 0, 1) := by decide +kernel
theorem dX4_init_41 : decode cX4_init 41 = .ok (.bipush 12, 2) := by decide +kernel
theorem dX4_init_43 : decode cX4_init 43 = .ok (.newarray .int, 2) := by decide +kernel
theorem dX4_init_45 : decode cX4_init 45 = .ok (.putfield 31, 3) := by decide +kernel
theorem dX4_init_48 : decode cX4_init 48 = .ok (.aload_n 0, 1) := by decide +kernel
theorem dX4_init_49 : decode cX4_init 49 = .ok (.bipush 24, 2) := by decide +kernel
theorem dX4_init_51 : decode cX4_init 51 = .ok (.newarray .int, 2) := by decide +kernel
theorem dX4_init_53 : decode cX4_init 53 = .ok (.putfield 34, 3) := by decide +kernel
theorem dX4_init_56 : decode cX4_init 56 = .ok (.aload_n 0, 1) := by decide +kernel
theorem dX4_init_57 : decode cX4_init 57 = .ok (.bipush 24, 2) := by decide +kernel
theorem dX4_init_59 : decode cX4_init 59 = .ok (.newarray .int, 2) := by decide +kernel
theorem dX4_init_61 : decode cX4_init 61 = .ok (.putfield 37, 3) := by decide +kernel
theorem dX4_init_64 : decode cX4_init 64 = .ok (.aload_n 0, 1) := by decide +kernel
theorem dX4_init_65 : decode cX4_init 65 = .ok (.bipush 24, 2) := by decide +kernel
theorem dX4_init_67 : decode cX4_init 67 = .ok (.newarray .int, 2) := by decide +kernel
theorem dX4_init_69 : decode cX4_init 69 = .ok (.putfield 40, 3) := by decide +kernel
theorem dX4_init_72 : decode cX4_init 72 = .ok (.aload_n 0, 1) := by decide +kernel
theorem dX4_init_73 : decode cX4_init 73 = .ok (.bipush 28, 2) := by decide +kernel
theorem dX4_init_75 : decode cX4_init 75 = .ok (.newarray .int, 2) := by decide +kernel
theorem dX4_init_77 : decode cX4_init 77 = .ok (.putfield 43, 3) := by decide +kernel
theorem dX4_init_80 : decode cX4_init 80 = .ok (.aload_n 0, 1) := by decide +kernel
theorem dX4_init_81 : decode cX4_init 81 = .ok (.bipush 28, 2) := by decide +kernel
theorem dX4_init_83 : decode cX4_init 83 = .ok (.newarray .int, 2) := by decide +kernel
theorem dX4_init_85 : decode cX4_init 85 = .ok (.putfield 46, 3) := by decide +kernel
theorem dX4_init_88 : decode cX4_init 88 = .ok (.aload_n 0, 1) := by decide +kernel
theorem dX4_init_89 : decode cX4_init 89 = .ok (.bipush 28, 2) := by decide +kernel
theorem dX4_init_91 : decode cX4_init 91 = .ok (.bipush 28, 2) := by decide +kernel
theorem dX4_init_93 : decode cX4_init 93 = .ok (.multianewarray 49 2, 4) := by decide +kernel
theorem dX4_init_97 : decode cX4_init 97 = .ok (.putfield 51, 3) := by decide +kernel
theorem dX4_init_100 : decode cX4_init 100 = .ok (.return_, 1) := by decide +kernel
theorem dX4_keepPlace_0 : decode cX4_keepPlace 0 = .ok (.aload_n 0, 1) := by decide +kernel
theorem dX4_keepPlace_1 : decode cX4_keepPlace 1 = .ok (.getfield 43, 3) := by decide +kernel
theorem dX4_keepPlace_4 : decode cX4_keepPlace 4 = .ok (.iload_n 1, 1) := by decide +kernel
theorem dX4_keepPlace_5 : decode cX4_keepPlace 5 = .ok (.iload_n 2, 1) := by decide +kernel
theorem dX4_keepPlace_6 : decode cX4_keepPlace 6 = .ok (.iastore, 1) := by decide +kernel
theorem dX4_keepPlace_7 : decode cX4_keepPlace 7 = .ok (.aload_n 0, 1) := by decide +kernel
theorem dX4_keepPlace_8 : decode cX4_keepPlace 8 = .ok (.getfield 46, 3) := by decide +kernel
theorem dX4_keepPlace_11 : decode cX4_keepPlace 11 = .ok (.iload_n 1, 1) := by decide +kernel
theorem dX4_keepPlace_12 : decode cX4_keepPlace 12 = .ok (.iload_n 3, 1) := by decide +kernel
theorem dX4_keepPlace_13 : decode cX4_keepPlace 13 = .ok (.iastore, 1) := by decide +kernel
theorem dX4_keepPlace_14 : decode cX4_keepPlace 14 = .ok (.iconst 0, 1) := by decide +kernel
theorem dX4_keepPlace_15 : decode cX4_keepPlace 15 = .ok (.istore 4, 2) := by decide +kernel
theorem dX4_keepPlace_17 : decode cX4_keepPlace 17 = .ok (.iload 4, 2) := by decide +kernel
theorem dX4_keepPlace_19 : decode cX4_keepPlace 19 = .ok (.bipush 28, 2) := by decide +kernel
theorem dX4_keepPlace_21 : decode cX4_keepPlace 21 = .ok (.if_icmp .ge 58, 3) := by decide +kernel
theorem dX4_keepPlace_24 : decode cX4_keepPlace 24 = .ok (.iload_n 2, 1) := by decide +kernel
theorem dX4_keepPlace_25 : decode cX4_keepPlace 25 = .ok (.aload_n 0, 1) := by decide +kernel
theorem dX4_keepPlace_26 : decode cX4_keepPlace 26 = .ok (.getfield 43, 3) := by decide +kernel
theorem dX4_keepPlace_29 : decode cX4_keepPlace 29 = .ok (.iload 4, 2) := by decide +kernel
theorem dX4_keepPlace_31 : decode cX4_keepPlace 31 = .ok (.iaload, 1) := by decide +kernel
theorem dX4_keepPlace_32 : decode cX4_keepPlace 32 = .ok (.isub, 1) := by decide +kernel
theorem dX4_keepPlace_33 : decode cX4_keepPlace 33 = .ok (.invokestatic 54, 3) := by decide +kernel
theorem dX4_keepPlace_36 : decode cX4_keepPlace 36 = .ok (.iload_n 3, 1) := by decide +kernel
theorem dX4_keepPlace_37 : decode cX4_keepPlace 37 = .ok (.aload_n 0, 1) := by decide +kernel
theorem dX4_keepPlace_38 : decode cX4_keepPlace 38 = .ok (.getfield 46, 3) := by decide +kernel
theorem dX4_keepPlace_41 : decode cX4_keepPlace 41 = .ok (.iload 4, 2) := by decide +kernel
theorem dX4_keepPlace_43 : decode cX4_keepPlace 43 = .ok (.iaload, 1) := by decide +kernel
theorem dX4_keepPlace_44 : decode cX4_keepPlace 44 = .ok (.isub, 1) := by decide +kernel
theorem dX4_keepPlace_45 : decode cX4_keepPlace 45 = .ok (.invokestatic 54, 3) := by decide +kernel
theorem dX4_keepPlace_48 : decode cX4_keepPlace 48 = .ok (.iadd, 1) := by decide +kernel
theorem dX4_keepPlace_49 : decode cX4_keepPlace 49 = .ok (.istore 5, 2) := by decide +kernel
theorem dX4_keepPlace_51 : decode cX4_keepPlace 51 = .ok (.aload_n 0, 1) := by decide +kernel
theorem dX4_keepPlace_52 : decode cX4_keepPlace 52 = .ok (.getfield 51, 3) := by decide +kernel
theorem dX4_keepPlace_55 : decode cX4_keepPlace 55 = .ok (.iload_n 1, 1) := by decide +kernel
theorem dX4_keepPlace_56 : decode cX4_keepPlace 56 = .ok (.aaload, 1) := by decide +kernel
theorem dX4_keepPlace_57 : decode cX4_keepPlace 57 = .ok (.iload 4, 2) := by decide +kernel
theorem dX4_keepPlace_59 : decode cX4_keepPlace 59 = .ok (.iload 5, 2) := by decide +kernel
theorem dX4_keepPlace_61 : decode cX4_keepPlace 61 = .ok (.iastore, 1) := by decide +kernel
theorem dX4_keepPlace_62 : decode cX4_keepPlace 62 = .ok (.aload_n 0, 1) := by decide +kernel
theorem dX4_keepPlace_63 : decode cX4_keepPlace 63 = .ok (.getfield 51, 3) := by decide +kernel
theorem dX4_keepPlace_66 : decode cX4_keepPlace 66 = .ok (.iload 4, 2) := by decide +kernel
theorem dX4_keepPlace_68 : decode cX4_keepPlace 68 = .ok (.aaload, 1) := by decide +kernel
theorem dX4_keepPlace_69 : decode cX4_keepPlace 69 = .ok (.iload_n 1, 1) := by decide +kernel
theorem dX4_keepPlace_70 : decode cX4_keepPlace 70 = .ok (.iload 5, 2) := by decide +kernel
theorem dX4_keepPlace_72 : decode cX4_keepPlace 72 = .ok (.iastore, 1) := by decide +kernel
theorem dX4_keepPlace_73 : decode cX4_keepPlace 73 = .ok (.iinc 4 1, 3) := by decide +kernel
theorem dX4_keepPlace_76 : decode cX4_keepPlace 76 = .ok (.goto (-59), 3) := by decide +kernel
theorem dX4_keepPlace_79 : decode cX4_keepPlace 79 = .ok (.return_, 1) := by decide +kernel
theorem dX4_keepWindow_0 : decode cX4_keepWindow 0 = .ok (.aload_n 0, 1) := by decide +kernel
theorem dX4_keepWindow_1 : decode cX4_keepWindow 1 = .ok (.getfield 37, 3) := by decide +kernel
theorem dX4_keepWindow_4 : decode cX4_keepWindow 4 = .ok (.iload_n 1, 1) := by decide +kernel
theorem dX4_keepWindow_5 : decode cX4_keepWindow 5 = .ok (.iload_n 2, 1) := by decide +kernel
theorem dX4_keepWindow_6 : decode cX4_keepWindow 6 = .ok (.iastore, 1) := by decide +kernel
theorem dX4_keepWindow_7 : decode cX4_keepWindow 7 = .ok (.aload_n 0, 1) := by decide +kernel
theorem dX4_keepWindow_8 : decode cX4_keepWindow 8 = .ok (.getfield 40, 3) := by decide +kernel
theorem dX4_keepWindow_11 : decode cX4_keepWindow 11 = .ok (.iload_n 1, 1) := by decide +kernel
theorem dX4_keepWindow_12 : decode cX4_keepWindow 12 = .ok (.iload_n 3, 1) := by decide +kernel
theorem dX4_keepWindow_13 : decode cX4_keepWindow 13 = .ok (.iastore, 1) := by decide +kernel
theorem dX4_keepWindow_14 : decode cX4_keepWindow 14 = .ok (.return_, 1) := by decide +kernel
theorem dX4_keepLoad_0 : decode cX4_keepLoad 0 = .ok (.aload_n 0, 1) := by decide +kernel
theorem dX4_keepLoad_1 : decode cX4_keepLoad 1 = .ok (.getfield 34, 3) := by decide +kernel
theorem dX4_keepLoad_4 : decode cX4_keepLoad 4 = .ok (.iconst 2, 1) := by decide +kernel
theorem dX4_keepLoad_5 : decode cX4_keepLoad 5 = .ok (.iload_n 1, 1) := by decide +kernel
theorem dX4_keepLoad_6 : decode cX4_keepLoad 6 = .ok (.imul, 1) := by decide +kernel
theorem dX4_keepLoad_7 : decode cX4_keepLoad 7 = .ok (.iload_n 2, 1) := by decide +kernel
theorem dX4_keepLoad_8 : decode cX4_keepLoad 8 = .ok (.iastore, 1) := by decide +kernel
theorem dX4_keepLoad_9 : decode cX4_keepLoad 9 = .ok (.aload_n 0, 1) := by decide +kernel
theorem dX4_keepLoad_10 : decode cX4_keepLoad 10 = .ok (.getfield 34, 3) := by decide +kernel
theorem dX4_keepLoad_13 : decode cX4_keepLoad 13 = .ok (.iconst 2, 1) := by decide +kernel
theorem dX4_keepLoad_14 : decode cX4_keepLoad 14 = .ok (.iload_n 1, 1) := by decide +kernel
theorem dX4_keepLoad_15 : decode cX4_keepLoad 15 = .ok (.imul, 1) := by decide +kernel
theorem dX4_keepLoad_16 : decode cX4_keepLoad 16 = .ok (.iconst 1, 1) := by decide +kernel
theorem dX4_keepLoad_17 : decode cX4_keepLoad 17 = .ok (.iadd, 1) := by decide +kernel
theorem dX4_keepLoad_18 : decode cX4_keepLoad 18 = .ok (.iload_n 2, 1) := by decide +kernel
theorem dX4_keepLoad_19 : decode cX4_keepLoad 19 = .ok (.ineg, 1) := by decide +kernel
theorem dX4_keepLoad_20 : decode cX4_keepLoad 20 = .ok (.iastore, 1) := by decide +kernel
theorem dX4_keepLoad_21 : decode cX4_keepLoad 21 = .ok (.return_, 1) := by decide +kernel
theorem dX4_length_0 : decode cX4_length 0 = .ok (.iconst 0, 1) := by decide +kernel
theorem dX4_length_1 : decode cX4_length 1 = .ok (.istore_n 2, 1) := by decide +kernel
theorem dX4_length_2 : decode cX4_length 2 = .ok (.aload_n 1, 1) := by decide +kernel
theorem dX4_length_3 : decode cX4_length 3 = .ok (.getfield 60, 3) := by decide +kernel
theorem dX4_length_6 : decode cX4_length 6 = .ok (.istore_n 3, 1) := by decide +kernel
theorem dX4_length_7 : decode cX4_length 7 = .ok (.iconst 0, 1) := by decide +kernel
theorem dX4_length_8 : decode cX4_length 8 = .ok (.istore 4, 2) := by decide +kernel
theorem dX4_length_10 : decode cX4_length 10 = .ok (.iload 4, 2) := by decide +kernel
theorem dX4_length_12 : decode cX4_length 12 = .ok (.aload_n 1, 1) := by decide +kernel
theorem dX4_length_13 : decode cX4_length 13 = .ok (.getfield 65, 3) := by decide +kernel
theorem dX4_length_16 : decode cX4_length 16 = .ok (.if_icmp .ge 34, 3) := by decide +kernel
theorem dX4_length_19 : decode cX4_length 19 = .ok (.iload_n 2, 1) := by decide +kernel
theorem dX4_length_20 : decode cX4_length 20 = .ok (.aload_n 0, 1) := by decide +kernel
theorem dX4_length_21 : decode cX4_length 21 = .ok (.getfield 51, 3) := by decide +kernel
theorem dX4_length_24 : decode cX4_length 24 = .ok (.iload_n 3, 1) := by decide +kernel
theorem dX4_length_25 : decode cX4_length 25 = .ok (.aaload, 1) := by decide +kernel
theorem dX4_length_26 : decode cX4_length 26 = .ok (.aload_n 1, 1) := by decide +kernel
theorem dX4_length_27 : decode cX4_length 27 = .ok (.getfield 68, 3) := by decide +kernel
theorem dX4_length_30 : decode cX4_length 30 = .ok (.iload 4, 2) := by decide +kernel
theorem dX4_length_32 : decode cX4_length 32 = .ok (.iaload, 1) := by decide +kernel
theorem dX4_length_33 : decode cX4_length 33 = .ok (.iaload, 1) := by decide +kernel
theorem dX4_length_34 : decode cX4_length 34 = .ok (.iadd, 1) := by decide +kernel
theorem dX4_length_35 : decode cX4_length 35 = .ok (.istore_n 2, 1) := by decide +kernel
theorem dX4_length_36 : decode cX4_length 36 = .ok (.aload_n 1, 1) := by decide +kernel
theorem dX4_length_37 : decode cX4_length 37 = .ok (.getfield 68, 3) := by decide +kernel
theorem dX4_length_40 : decode cX4_length 40 = .ok (.iload 4, 2) := by decide +kernel
theorem dX4_length_42 : decode cX4_length 42 = .ok (.iaload, 1) := by decide +kernel
theorem dX4_length_43 : decode cX4_length 43 = .ok (.istore_n 3, 1) := by decide +kernel
theorem dX4_length_44 : decode cX4_length 44 = .ok (.iinc 4 1, 3) := by decide +kernel
theorem dX4_length_47 : decode cX4_length 47 = .ok (.goto (-37), 3) := by decide +kernel
theorem dX4_length_50 : decode cX4_length 50 = .ok (.iload_n 2, 1) := by decide +kernel
theorem dX4_length_51 : decode cX4_length 51 = .ok (.aload_n 0, 1) := by decide +kernel
theorem dX4_length_52 : decode cX4_length 52 = .ok (.getfield 51, 3) := by decide +kernel
theorem dX4_length_55 : decode cX4_length 55 = .ok (.iload_n 3, 1) := by decide +kernel
theorem dX4_length_56 : decode cX4_length 56 = .ok (.aaload, 1) := by decide +kernel
theorem dX4_length_57 : decode cX4_length 57 = .ok (.aload_n 1, 1) := by decide +kernel
theorem dX4_length_58 : decode cX4_length 58 = .ok (.getfield 60, 3) := by decide +kernel
theorem dX4_length_61 : decode cX4_length 61 = .ok (.iaload, 1) := by decide +kernel
theorem dX4_length_62 : decode cX4_length 62 = .ok (.iadd, 1) := by decide +kernel
theorem dX4_length_63 : decode cX4_length 63 = .ok (.ireturn, 1) := by decide +kernel
theorem dX4_totalLength_0 : decode cX4_totalLength 0 = .ok (.iconst 0, 1) := by decide +kernel
theorem dX4_totalLength_1 : decode cX4_totalLength 1 = .ok (.istore_n 2, 1) := by decide +kernel
theorem dX4_totalLength_2 : decode cX4_totalLength 2 = .ok (.iconst 0, 1) := by decide +kernel
theorem dX4_totalLength_3 : decode cX4_totalLength 3 = .ok (.istore_n 3, 1) := by decide +kernel
theorem dX4_totalLength_4 : decode cX4_totalLength 4 = .ok (.iload_n 3, 1) := by decide +kernel
theorem dX4_totalLength_5 : decode cX4_totalLength 5 = .ok (.aload_n 0, 1) := by decide +kernel
theorem dX4_totalLength_6 : decode cX4_totalLength 6 = .ok (.getfield 9, 3) := by decide +kernel
theorem dX4_totalLength_9 : decode cX4_totalLength 9 = .ok (.if_icmp .ge 22, 3) := by decide +kernel
theorem dX4_totalLength_12 : decode cX4_totalLength 12 = .ok (.iload_n 2, 1) := by decide +kernel
theorem dX4_totalLength_13 : decode cX4_totalLength 13 = .ok (.aload_n 0, 1) := by decide +kernel
theorem dX4_totalLength_14 : decode cX4_totalLength 14 = .ok (.aload_n 1, 1) := by decide +kernel
theorem dX4_totalLength_15 : decode cX4_totalLength 15 = .ok (.getfield 71, 3) := by decide +kernel
theorem dX4_totalLength_18 : decode cX4_totalLength 18 = .ok (.iload_n 3, 1) := by decide +kernel
theorem dX4_totalLength_19 : decode cX4_totalLength 19 = .ok (.aaload, 1) := by decide +kernel
theorem dX4_totalLength_20 : decode cX4_totalLength 20 = .ok (.invokevirtual 77, 3) := by decide +kernel
theorem dX4_totalLength_23 : decode cX4_totalLength 23 = .ok (.iadd, 1) := by decide +kernel
theorem dX4_totalLength_24 : decode cX4_totalLength 24 = .ok (.istore_n 2, 1) := by decide +kernel
theorem dX4_totalLength_25 : decode cX4_totalLength 25 = .ok (.iinc 3 1, 3) := by decide +kernel
theorem dX4_totalLength_28 : decode cX4_totalLength 28 = .ok (.goto (-24), 3) := by decide +kernel
theorem dX4_totalLength_31 : decode cX4_totalLength 31 = .ok (.iload_n 2, 1) := by decide +kernel
theorem dX4_totalLength_32 : decode cX4_totalLength 32 = .ok (.ireturn, 1) := by decide +kernel
theorem dX4_addedLength_0 : decode cX4_addedLength 0 = .ok (.iconst 2, 1) := by decide +kernel
theorem dX4_addedLength_1 : decode cX4_addedLength 1 = .ok (.iload_n 2, 1) := by decide +kernel
theorem dX4_addedLength_2 : decode cX4_addedLength 2 = .ok (.imul, 1) := by decide +kernel
theorem dX4_addedLength_3 : decode cX4_addedLength 3 = .ok (.istore 5, 2) := by decide +kernel
theorem dX4_addedLength_5 : decode cX4_addedLength 5 = .ok (.iload 5, 2) := by decide +kernel
theorem dX4_addedLength_7 : decode cX4_addedLength 7 = .ok (.iconst 1, 1) := by decide +kernel
theorem dX4_addedLength_8 : decode cX4_addedLength 8 = .ok (.iadd, 1) := by decide +kernel
theorem dX4_addedLength_9 : decode cX4_addedLength 9 = .ok (.istore 6, 2) := by decide +kernel
theorem dX4_addedLength_11 : decode cX4_addedLength 11 = .ok (.aload_n 1, 1) := by decide +kernel
theorem dX4_addedLength_12 : decode cX4_addedLength 12 = .ok (.iload_n 3, 1) := by decide +kernel
theorem dX4_addedLength_13 : decode cX4_addedLength 13 = .ok (.iconst 1, 1) := by decide +kernel
theorem dX4_addedLength_14 : decode cX4_addedLength 14 = .ok (.isub, 1) := by decide +kernel
theorem dX4_addedLength_15 : decode cX4_addedLength 15 = .ok (.invokevirtual 81, 3) := by decide +kernel
theorem dX4_addedLength_18 : decode cX4_addedLength 18 = .ok (.istore 7, 2) := by decide +kernel
theorem dX4_addedLength_20 : decode cX4_addedLength 20 = .ok (.aload_n 1, 1) := by decide +kernel
theorem dX4_addedLength_21 : decode cX4_addedLength 21 = .ok (.iload_n 3, 1) := by decide +kernel
theorem dX4_addedLength_22 : decode cX4_addedLength 22 = .ok (.invokevirtual 81, 3) := by decide +kernel
theorem dX4_addedLength_25 : decode cX4_addedLength 25 = .ok (.istore 8, 2) := by decide +kernel
theorem dX4_addedLength_27 : decode cX4_addedLength 27 = .ok (.iload 4, 2) := by decide +kernel
theorem dX4_addedLength_29 : decode cX4_addedLength 29 = .ok (.iload_n 3, 1) := by decide +kernel
theorem dX4_addedLength_30 : decode cX4_addedLength 30 = .ok (.iconst 1, 1) := by decide +kernel
theorem dX4_addedLength_31 : decode cX4_addedLength 31 = .ok (.iadd, 1) := by decide +kernel
theorem dX4_addedLength_32 : decode cX4_addedLength 32 = .ok (.if_icmp .ne 47, 3) := by decide +kernel
theorem dX4_addedLength_35 : decode cX4_addedLength 35 = .ok (.aload_n 0, 1) := by decide +kernel
theorem dX4_addedLength_36 : decode cX4_addedLength 36 = .ok (.getfield 51, 3) := by decide +kernel
theorem dX4_addedLength_39 : decode cX4_addedLength 39 = .ok (.iload 7, 2) := by decide +kernel
theorem dX4_addedLength_41 : decode cX4_addedLength 41 = .ok (.aaload, 1) := by decide +kernel
theorem dX4_addedLength_42 : decode cX4_addedLength 42 = .ok (.iload 5, 2) := by decide +kernel
theorem dX4_addedLength_44 : decode cX4_addedLength 44 = .ok (.iaload, 1) := by decide +kernel
theorem dX4_addedLength_45 : decode cX4_addedLength 45 = .ok (.aload_n 0, 1) := by decide +kernel
theorem dX4_addedLength_46 : decode cX4_addedLength 46 = .ok (.getfield 51, 3) := by decide +kernel
theorem dX4_addedLength_49 : decode cX4_addedLength 49 = .ok (.iload 5, 2) := by decide +kernel
theorem dX4_addedLength_51 : decode cX4_addedLength 51 = .ok (.aaload, 1) := by decide +kernel
theorem dX4_addedLength_52 : decode cX4_addedLength 52 = .ok (.iload 6, 2) := by decide +kernel
theorem dX4_addedLength_54 : decode cX4_addedLength 54 = .ok (.iaload, 1) := by decide +kernel
theorem dX4_addedLength_55 : decode cX4_addedLength 55 = .ok (.iadd, 1) := by decide +kernel
theorem dX4_addedLength_56 : decode cX4_addedLength 56 = .ok (.aload_n 0, 1) := by decide +kernel
theorem dX4_addedLength_57 : decode cX4_addedLength 57 = .ok (.getfield 51, 3) := by decide +kernel
theorem dX4_addedLength_60 : decode cX4_addedLength 60 = .ok (.iload 6, 2) := by decide +kernel
theorem dX4_addedLength_62 : decode cX4_addedLength 62 = .ok (.aaload, 1) := by decide +kernel
theorem dX4_addedLength_63 : decode cX4_addedLength 63 = .ok (.iload 8, 2) := by decide +kernel
theorem dX4_addedLength_65 : decode cX4_addedLength 65 = .ok (.iaload, 1) := by decide +kernel
theorem dX4_addedLength_66 : decode cX4_addedLength 66 = .ok (.iadd, 1) := by decide +kernel
theorem dX4_addedLength_67 : decode cX4_addedLength 67 = .ok (.aload_n 0, 1) := by decide +kernel
theorem dX4_addedLength_68 : decode cX4_addedLength 68 = .ok (.getfield 51, 3) := by decide +kernel
theorem dX4_addedLength_71 : decode cX4_addedLength 71 = .ok (.iload 7, 2) := by decide +kernel
theorem dX4_addedLength_73 : decode cX4_addedLength 73 = .ok (.aaload, 1) := by decide +kernel
theorem dX4_addedLength_74 : decode cX4_addedLength 74 = .ok (.iload 8, 2) := by decide +kernel
theorem dX4_addedLength_76 : decode cX4_addedLength 76 = .ok (.iaload, 1) := by decide +kernel
theorem dX4_addedLength_77 : decode cX4_addedLength 77 = .ok (.isub, 1) := by decide +kernel
theorem dX4_addedLength_78 : decode cX4_addedLength 78 = .ok (.ireturn, 1) := by decide +kernel
theorem dX4_addedLength_79 : decode cX4_addedLength 79 = .ok (.aload_n 1, 1) := by decide +kernel
theorem dX4_addedLength_80 : decode cX4_addedLength 80 = .ok (.iload 4, 2) := by decide +kernel
theorem dX4_addedLength_82 : decode cX4_addedLength 82 = .ok (.iconst 2, 1) := by decide +kernel
theorem dX4_addedLength_83 : decode cX4_addedLength 83 = .ok (.isub, 1) := by decide +kernel
theorem dX4_addedLength_84 : decode cX4_addedLength 84 = .ok (.invokevirtual 81, 3) := by decide +kernel
theorem dX4_addedLength_87 : decode cX4_addedLength 87 = .ok (.istore 9, 2) := by decide +kernel
theorem dX4_addedLength_89 : decode cX4_addedLength 89 = .ok (.aload_n 1, 1) := by decide +kernel
theorem dX4_addedLength_90 : decode cX4_addedLength 90 = .ok (.iload 4, 2) := by decide +kernel
theorem dX4_addedLength_92 : decode cX4_addedLength 92 = .ok (.iconst 1, 1) := by decide +kernel
theorem dX4_addedLength_93 : decode cX4_addedLength 93 = .ok (.isub, 1) := by decide +kernel
theorem dX4_addedLength_94 : decode cX4_addedLength 94 = .ok (.invokevirtual 81, 3) := by decide +kernel
theorem dX4_addedLength_97 : decode cX4_addedLength 97 = .ok (.istore 10, 2) := by decide +kernel
theorem dX4_addedLength_99 : decode cX4_addedLength 99 = .ok (.aload_n 0, 1) := by decide +kernel
theorem dX4_addedLength_100 : decode cX4_addedLength 100 = .ok (.getfield 51, 3) := by decide +kernel
theorem dX4_addedLength_103 : decode cX4_addedLength 103 = .ok (.iload 7, 2) := by decide +kernel
theorem dX4_addedLength_105 : decode cX4_addedLength 105 = .ok (.aaload, 1) := by decide +kernel
theorem dX4_addedLength_106 : decode cX4_addedLength 106 = .ok (.iload 5, 2) := by decide +kernel
theorem dX4_addedLength_108 : decode cX4_addedLength 108 = .ok (.iaload, 1) := by decide +kernel
theorem dX4_addedLength_109 : decode cX4_addedLength 109 = .ok (.aload_n 0, 1) := by decide +kernel
theorem dX4_addedLength_110 : decode cX4_addedLength 110 = .ok (.getfield 51, 3) := by decide +kernel
theorem dX4_addedLength_113 : decode cX4_addedLength 113 = .ok (.iload 5, 2) := by decide +kernel
theorem dX4_addedLength_115 : decode cX4_addedLength 115 = .ok (.aaload, 1) := by decide +kernel
theorem dX4_addedLength_116 : decode cX4_addedLength 116 = .ok (.iload 8, 2) := by decide +kernel
theorem dX4_addedLength_118 : decode cX4_addedLength 118 = .ok (.iaload, 1) := by decide +kernel
theorem dX4_addedLength_119 : decode cX4_addedLength 119 = .ok (.iadd, 1) := by decide +kernel
theorem dX4_addedLength_120 : decode cX4_addedLength 120 = .ok (.aload_n 0, 1) := by decide +kernel
theorem dX4_addedLength_121 : decode cX4_addedLength 121 = .ok (.getfield 51, 3) := by decide +kernel
theorem dX4_addedLength_124 : decode cX4_addedLength 124 = .ok (.iload 7, 2) := by decide +kernel
theorem dX4_addedLength_126 : decode cX4_addedLength 126 = .ok (.aaload, 1) := by decide +kernel
theorem dX4_addedLength_127 : decode cX4_addedLength 127 = .ok (.iload 8, 2) := by decide +kernel
theorem dX4_addedLength_129 : decode cX4_addedLength 129 = .ok (.iaload, 1) := by decide +kernel
theorem dX4_addedLength_130 : decode cX4_addedLength 130 = .ok (.isub, 1) := by decide +kernel
theorem dX4_addedLength_131 : decode cX4_addedLength 131 = .ok (.aload_n 0, 1) := by decide +kernel
theorem dX4_addedLength_132 : decode cX4_addedLength 132 = .ok (.getfield 51, 3) := by decide +kernel
theorem dX4_addedLength_135 : decode cX4_addedLength 135 = .ok (.iload 9, 2) := by decide +kernel
theorem dX4_addedLength_137 : decode cX4_addedLength 137 = .ok (.aaload, 1) := by decide +kernel
theorem dX4_addedLength_138 : decode cX4_addedLength 138 = .ok (.iload 6, 2) := by decide +kernel
theorem dX4_addedLength_140 : decode cX4_addedLength 140 = .ok (.iaload, 1) := by decide +kernel
theorem dX4_addedLength_141 : decode cX4_addedLength 141 = .ok (.iadd, 1) := by decide +kernel
theorem dX4_addedLength_142 : decode cX4_addedLength 142 = .ok (.aload_n 0, 1) := by decide +kernel
theorem dX4_addedLength_143 : decode cX4_addedLength 143 = .ok (.getfield 51, 3) := by decide +kernel
theorem dX4_addedLength_146 : decode cX4_addedLength 146 = .ok (.iload 6, 2) := by decide +kernel
theorem dX4_addedLength_148 : decode cX4_addedLength 148 = .ok (.aaload, 1) := by decide +kernel
theorem dX4_addedLength_149 : decode cX4_addedLength 149 = .ok (.iload 10, 2) := by decide +kernel
theorem dX4_addedLength_151 : decode cX4_addedLength 151 = .ok (.iaload, 1) := by decide +kernel
theorem dX4_addedLength_152 : decode cX4_addedLength 152 = .ok (.iadd, 1) := by decide +kernel
theorem dX4_addedLength_153 : decode cX4_addedLength 153 = .ok (.aload_n 0, 1) := by decide +kernel
theorem dX4_addedLength_154 : decode cX4_addedLength 154 = .ok (.getfield 51, 3) := by decide +kernel
theorem dX4_addedLength_157 : decode cX4_addedLength 157 = .ok (.iload 9, 2) := by decide +kernel
theorem dX4_addedLength_159 : decode cX4_addedLength 159 = .ok (.aaload, 1) := by decide +kernel
theorem dX4_addedLength_160 : decode cX4_addedLength 160 = .ok (.iload 10, 2) := by decide +kernel
theorem dX4_addedLength_162 : decode cX4_addedLength 162 = .ok (.iaload, 1) := by decide +kernel
theorem dX4_addedLength_163 : decode cX4_addedLength 163 = .ok (.isub, 1) := by decide +kernel
theorem dX4_addedLength_164 : decode cX4_addedLength 164 = .ok (.ireturn, 1) := by decide +kernel
theorem dX5_init_0 : decode cX5_init 0 = .ok (.aload_n 0, 1) := by decide +kernel
theorem dX5_init_1 : decode cX5_init 1 = .ok (.invokespecial 3, 3) := by decide +kernel
theorem dX5_init_4 : decode cX5_init 4 = .ok (.aload_n 0, 1) := by decide +kernel
theorem dX5_init_5 : decode cX5_init 5 = .ok (.iconst 0, 1) := by decide +kernel
theorem dX5_init_6 : decode cX5_init 6 = .ok (.putfield 9, 3) := by decide +kernel
theorem dX5_init_9 : decode cX5_init 9 = .ok (.aload_n 0, 1) := by decide +kernel
theorem dX5_init_10 : decode cX5_init 10 = .ok (.bipush 24, 2) := by decide +kernel
theorem dX5_init_12 : decode cX5_init 12 = .ok (.newarray .int, 2) := by decide +kernel
theorem dX5_init_14 : decode cX5_init 14 = .ok (.putfield 15, 3) := by decide +kernel
theorem dX5_init_17 : decode cX5_init 17 = .ok (.aload_n 0, 1) := by decide +kernel
theorem dX5_init_18 : decode cX5_init 18 = .ok (.iload_n 1, 1) := by decide +kernel
theorem dX5_init_19 : decode cX5_init 19 = .ok (.putfield 19, 3) := by decide +kernel
theorem dX5_init_22 : decode cX5_init 22 = .ok (.aload_n 0, 1) := by decide +kernel
theorem dX5_init_23 : decode cX5_init 23 = .ok (.bipush 24, 2) := by decide +kernel
theorem dX5_init_25 : decode cX5_init 25 = .ok (.iload_n 1, 1) := by decide +kernel
theorem dX5_init_26 : decode cX5_init 26 = .ok (.iadd, 1) := by decide +kernel
theorem dX5_init_27 : decode cX5_init 27 = .ok (.putfield 22, 3) := by decide +kernel
theorem dX5_init_30 : decode cX5_init 30 = .ok (.return_, 1) := by decide +kernel
theorem dX5_become_0 : decode cX5_become 0 = .ok (.aload_n 0, 1) := by decide +kernel
theorem dX5_become_1 : decode cX5_become 1 = .ok (.aload_n 1, 1) := by decide +kernel
theorem dX5_become_2 : decode cX5_become 2 = .ok (.getfield 19, 3) := by decide +kernel
theorem dX5_become_5 : decode cX5_become 5 = .ok (.putfield 19, 3) := by decide +kernel
theorem dX5_become_8 : decode cX5_become 8 = .ok (.aload_n 0, 1) := by decide +kernel
theorem dX5_become_9 : decode cX5_become 9 = .ok (.aload_n 1, 1) := by decide +kernel
theorem dX5_become_10 : decode cX5_become 10 = .ok (.getfield 22, 3) := by decide +kernel
theorem dX5_become_13 : decode cX5_become 13 = .ok (.putfield 22, 3) := by decide +kernel
theorem dX5_become_16 : decode cX5_become 16 = .ok (.aload_n 0, 1) := by decide +kernel
theorem dX5_become_17 : decode cX5_become 17 = .ok (.aload_n 1, 1) := by decide +kernel
theorem dX5_become_18 : decode cX5_become 18 = .ok (.getfield 9, 3) := by decide +kernel
theorem dX5_become_21 : decode cX5_become 21 = .ok (.putfield 9, 3) := by decide +kernel
theorem dX5_become_24 : decode cX5_become 24 = .ok (.aload_n 1, 1) := by decide +kernel
theorem dX5_become_25 : decode cX5_become 25 = .ok (.getfield 15, 3) := by decide +kernel
theorem dX5_become_28 : decode cX5_become 28 = .ok (.iconst 0, 1) := by decide +kernel
theorem dX5_become_29 : decode cX5_become 29 = .ok (.aload_n 0, 1) := by decide +kernel
theorem dX5_become_30 : decode cX5_become 30 = .ok (.getfield 15, 3) := by decide +kernel
theorem dX5_become_33 : decode cX5_become 33 = .ok (.iconst 0, 1) := by decide +kernel
theorem dX5_become_34 : decode cX5_become 34 = .ok (.bipush 24, 2) := by decide +kernel
theorem dX5_become_36 : decode cX5_become 36 = .ok (.invokestatic 25, 3) := by decide +kernel
theorem dX5_become_39 : decode cX5_become 39 = .ok (.return_, 1) := by decide +kernel
theorem dX5_placeAt_0 : decode cX5_placeAt 0 = .ok (.iload_n 1, 1) := by decide +kernel
theorem dX5_placeAt_1 : decode cX5_placeAt 1 = .ok (.ifCond .lt 20, 3) := by decide +kernel
theorem dX5_placeAt_4 : decode cX5_placeAt 4 = .ok (.iload_n 1, 1) := by decide +kernel
theorem dX5_placeAt_5 : decode cX5_placeAt 5 = .ok (.aload_n 0, 1) := by decide +kernel
theorem dX5_placeAt_6 : decode cX5_placeAt 6 = .ok (.getfield 9, 3) := by decide +kernel
theorem dX5_placeAt_9 : decode cX5_placeAt 9 = .ok (.if_icmp .ge 12, 3) := by decide +kernel
theorem dX5_placeAt_12 : decode cX5_placeAt 12 = .ok (.aload_n 0, 1) := by decide +kernel
theorem dX5_placeAt_13 : decode cX5_placeAt 13 = .ok (.getfield 15, 3) := by decide +kernel
theorem dX5_placeAt_16 : decode cX5_placeAt 16 = .ok (.iload_n 1, 1) := by decide +kernel
theorem dX5_placeAt_17 : decode cX5_placeAt 17 = .ok (.iaload, 1) := by decide +kernel
theorem dX5_placeAt_18 : decode cX5_placeAt 18 = .ok (.goto 7, 3) := by decide +kernel
theorem dX5_placeAt_21 : decode cX5_placeAt 21 = .ok (.aload_n 0, 1) := by decide +kernel
theorem dX5_placeAt_22 : decode cX5_placeAt 22 = .ok (.getfield 22, 3) := by decide +kernel
theorem dX5_placeAt_25 : decode cX5_placeAt 25 = .ok (.ireturn, 1) := by decide +kernel
theorem dX5_put_0 : decode cX5_put 0 = .ok (.aload_n 0, 1) := by decide +kernel
theorem dX5_put_1 : decode cX5_put 1 = .ok (.getfield 9, 3) := by decide +kernel
theorem dX5_put_4 : decode cX5_put 4 = .ok (.iconst 2, 1) := by decide +kernel
theorem dX5_put_5 : decode cX5_put 5 = .ok (.iadd, 1) := by decide +kernel
theorem dX5_put_6 : decode cX5_put 6 = .ok (.bipush 24, 2) := by decide +kernel
theorem dX5_put_8 : decode cX5_put 8 = .ok (.if_icmp .gt 22, 3) := by decide +kernel
theorem dX5_put_11 : decode cX5_put 11 = .ok (.iload_n 2, 1) := by decide +kernel
theorem dX5_put_12 : decode cX5_put 12 = .ok (.ifCond .lt 18, 3) := by decide +kernel
theorem dX5_put_15 : decode cX5_put 15 = .ok (.iload_n 3, 1) := by decide +kernel
theorem dX5_put_16 : decode cX5_put 16 = .ok (.iload_n 2, 1) := by decide +kernel
theorem dX5_put_17 : decode cX5_put 17 = .ok (.if_icmp .le 13, 3) := by decide +kernel
theorem dX5_put_20 : decode cX5_put 20 = .ok (.iload_n 3, 1) := by decide +kernel
theorem dX5_put_21 : decode cX5_put 21 = .ok (.aload_n 0, 1) := by decide +kernel
theorem dX5_put_22 : decode cX5_put 22 = .ok (.getfield 9, 3) := by decide +kernel
theorem dX5_put_25 : decode cX5_put 25 = .ok (.iconst 1, 1) := by decide +kernel
theorem dX5_put_26 : decode cX5_put 26 = .ok (.iadd, 1) := by decide +kernel
theorem dX5_put_27 : decode cX5_put 27 = .ok (.if_icmp .le 4, 3) := by decide +kernel
theorem dX5_put_30 : decode cX5_put 30 = .ok (.return_, 1) := by decide +kernel
theorem dX5_put_31 : decode cX5_put 31 = .ok (.aload_n 0, 1) := by decide +kernel
theorem dX5_put_32 : decode cX5_put 32 = .ok (.getfield 9, 3) := by decide +kernel
theorem dX5_put_35 : decode cX5_put 35 = .ok (.iconst 1, 1) := by decide +kernel
theorem dX5_put_36 : decode cX5_put 36 = .ok (.iadd, 1) := by decide +kernel
theorem dX5_put_37 : decode cX5_put 37 = .ok (.istore 4, 2) := by decide +kernel
theorem dX5_put_39 : decode cX5_put 39 = .ok (.iload 4, 2) := by decide +kernel
theorem dX5_put_41 : decode cX5_put 41 = .ok (.iload_n 3, 1) := by decide +kernel
theorem dX5_put_42 : decode cX5_put 42 = .ok (.if_icmp .le 25, 3) := by decide +kernel
theorem dX5_put_45 : decode cX5_put 45 = .ok (.aload_n 0, 1) := by decide +kernel
theorem dX5_put_46 : decode cX5_put 46 = .ok (.getfield 15, 3) := by decide +kernel
theorem dX5_put_49 : decode cX5_put 49 = .ok (.iload 4, 2) := by decide +kernel
theorem dX5_put_51 : decode cX5_put 51 = .ok (.aload_n 0, 1) := by decide +kernel
theorem dX5_put_52 : decode cX5_put 52 = .ok (.getfield 15, 3) := by decide +kernel
theorem dX5_put_55 : decode cX5_put 55 = .ok (.iload 4, 2) := by decide +kernel
theorem dX5_put_57 : decode cX5_put 57 = .ok (.iconst 2, 1) := by decide +kernel
theorem dX5_put_58 : decode cX5_put 58 = .ok (.isub, 1) := by decide +kernel
theorem dX5_put_59 : decode cX5_put 59 = .ok (.iaload, 1) := by decide +kernel
theorem dX5_put_60 : decode cX5_put 60 = .ok (.iastore, 1) := by decide +kernel
theorem dX5_put_61 : decode cX5_put 61 = .ok (.iinc 4 (-1), 3) := by decide +kernel
theorem dX5_put_64 : decode cX5_put 64 = .ok (.goto (-25), 3) := by decide +kernel
theorem dX5_put_67 : decode cX5_put 67 = .ok (.iload_n 3, 1) := by decide +kernel
theorem dX5_put_68 : decode cX5_put 68 = .ok (.iconst 1, 1) := by decide +kernel
theorem dX5_put_69 : decode cX5_put 69 = .ok (.isub, 1) := by decide +kernel
theorem dX5_put_70 : decode cX5_put 70 = .ok (.istore 4, 2) := by decide +kernel
theorem dX5_put_72 : decode cX5_put 72 = .ok (.iload 4, 2) := by decide +kernel
theorem dX5_put_74 : decode cX5_put 74 = .ok (.iload_n 2, 1) := by decide +kernel
theorem dX5_put_75 : decode cX5_put 75 = .ok (.if_icmp .le 25, 3) := by decide +kernel
theorem dX5_put_78 : decode cX5_put 78 = .ok (.aload_n 0, 1) := by decide +kernel
theorem dX5_put_79 : decode cX5_put 79 = .ok (.getfield 15, 3) := by decide +kernel
theorem dX5_put_82 : decode cX5_put 82 = .ok (.iload 4, 2) := by decide +kernel
theorem dX5_put_84 : decode cX5_put 84 = .ok (.aload_n 0, 1) := by decide +kernel
theorem dX5_put_85 : decode cX5_put 85 = .ok (.getfield 15, 3) := by decide +kernel
theorem dX5_put_88 : decode cX5_put 88 = .ok (.iload 4, 2) := by decide +kernel
theorem dX5_put_90 : decode cX5_put 90 = .ok (.iconst 1, 1) := by decide +kernel
theorem dX5_put_91 : decode cX5_put 91 = .ok (.isub, 1) := by decide +kernel
theorem dX5_put_92 : decode cX5_put 92 = .ok (.iaload, 1) := by decide +kernel
theorem dX5_put_93 : decode cX5_put 93 = .ok (.iastore, 1) := by decide +kernel
theorem dX5_put_94 : decode cX5_put 94 = .ok (.iinc 4 (-1), 3) := by decide +kernel
theorem dX5_put_97 : decode cX5_put 97 = .ok (.goto (-25), 3) := by decide +kernel
theorem dX5_put_100 : decode cX5_put 100 = .ok (.aload_n 0, 1) := by decide +kernel
theorem dX5_put_101 : decode cX5_put 101 = .ok (.getfield 15, 3) := by decide +kernel
theorem dX5_put_104 : decode cX5_put 104 = .ok (.iload_n 2, 1) := by decide +kernel
theorem dX5_put_105 : decode cX5_put 105 = .ok (.iconst 2, 1) := by decide +kernel
theorem dX5_put_106 : decode cX5_put 106 = .ok (.iload_n 1, 1) := by decide +kernel
theorem dX5_put_107 : decode cX5_put 107 = .ok (.imul, 1) := by decide +kernel
theorem dX5_put_108 : decode cX5_put 108 = .ok (.iastore, 1) := by decide +kernel
theorem dX5_put_109 : decode cX5_put 109 = .ok (.aload_n 0, 1) := by decide +kernel
theorem dX5_put_110 : decode cX5_put 110 = .ok (.getfield 15, 3) := by decide +kernel
theorem dX5_put_113 : decode cX5_put 113 = .ok (.iload_n 3, 1) := by decide +kernel
theorem dX5_put_114 : decode cX5_put 114 = .ok (.iconst 2, 1) := by decide +kernel
theorem dX5_put_115 : decode cX5_put 115 = .ok (.iload_n 1, 1) := by decide +kernel
theorem dX5_put_116 : decode cX5_put 116 = .ok (.imul, 1) := by decide +kernel
theorem dX5_put_117 : decode cX5_put 117 = .ok (.iconst 1, 1) := by decide +kernel
theorem dX5_put_118 : decode cX5_put 118 = .ok (.iadd, 1) := by decide +kernel
theorem dX5_put_119 : decode cX5_put 119 = .ok (.iastore, 1) := by decide +kernel
theorem dX5_put_120 : decode cX5_put 120 = .ok (.aload_n 0, 1) := by decide +kernel
theorem dX5_put_121 : decode cX5_put 121 = .ok (.dup, 1) := by decide +kernel
theorem dX5_put_122 : decode cX5_put 122 = .ok (.getfield 9, 3) := by decide +kernel
theorem dX5_put_125 : decode cX5_put 125 = .ok (.iconst 2, 1) := by decide +kernel
theorem dX5_put_126 : decode cX5_put 126 = .ok (.iadd, 1) := by decide +kernel
theorem dX5_put_127 : decode cX5_put 127 = .ok (.putfield 9, 3) := by decide +kernel
theorem dX5_put_130 : decode cX5_put 130 = .ok (.return_, 1) := by decide +kernel
theorem dX5_take_0 : decode cX5_take 0 = .ok (.iconst 0, 1) := by decide +kernel
theorem dX5_take_1 : decode cX5_take 1 = .ok (.istore_n 2, 1) := by decide +kernel
theorem dX5_take_2 : decode cX5_take 2 = .ok (.iconst 0, 1) := by decide +kernel
theorem dX5_take_3 : decode cX5_take 3 = .ok (.istore_n 3, 1) := by decide +kernel
theorem dX5_take_4 : decode cX5_take 4 = .ok (.iload_n 3, 1) := by decide +kernel
theorem dX5_take_5 : decode cX5_take 5 = .ok (.aload_n 0, 1) := by decide +kernel
theorem dX5_take_6 : decode cX5_take 6 = .ok (.getfield 9, 3) := by decide +kernel
theorem dX5_take_9 : decode cX5_take 9 = .ok (.if_icmp .ge 36, 3) := by decide +kernel
theorem dX5_take_12 : decode cX5_take 12 = .ok (.aload_n 0, 1) := by decide +kernel
theorem dX5_take_13 : decode cX5_take 13 = .ok (.getfield 15, 3) := by decide +kernel
theorem dX5_take_16 : decode cX5_take 16 = .ok (.iload_n 3, 1) := by decide +kernel
theorem dX5_take_17 : decode cX5_take 17 = .ok (.iaload, 1) := by decide +kernel
theorem dX5_take_18 : decode cX5_take 18 = .ok (.iconst 2, 1) := by decide +kernel
theorem dX5_take_19 : decode cX5_take 19 = .ok (.idiv, 1) := by decide +kernel
theorem dX5_take_20 : decode cX5_take 20 = .ok (.iload_n 1, 1) := by decide +kernel
theorem dX5_take_21 : decode cX5_take 21 = .ok (.if_icmp .eq 18, 3) := by decide +kernel
theorem dX5_take_24 : decode cX5_take 24 = .ok (.aload_n 0, 1) := by decide +kernel
theorem dX5_take_25 : decode cX5_take 25 = .ok (.getfield 15, 3) := by decide +kernel
theorem dX5_take_28 : decode cX5_take 28 = .ok (.iload_n 2, 1) := by decide +kernel
theorem dX5_take_29 : decode cX5_take 29 = .ok (.aload_n 0, 1) := by decide +kernel
theorem dX5_take_30 : decode cX5_take 30 = .ok (.getfield 15, 3) := by decide +kernel
theorem dX5_take_33 : decode cX5_take 33 = .ok (.iload_n 3, 1) := by decide +kernel
theorem dX5_take_34 : decode cX5_take 34 = .ok (.iaload, 1) := by decide +kernel
theorem dX5_take_35 : decode cX5_take 35 = .ok (.iastore, 1) := by decide +kernel
theorem dX5_take_36 : decode cX5_take 36 = .ok (.iinc 2 1, 3) := by decide +kernel
theorem dX5_take_39 : decode cX5_take 39 = .ok (.iinc 3 1, 3) := by decide +kernel
theorem dX5_take_42 : decode cX5_take 42 = .ok (.goto (-38), 3) := by decide +kernel
theorem dX5_take_45 : decode cX5_take 45 = .ok (.aload_n 0, 1) := by decide +kernel
theorem dX5_take_46 : decode cX5_take 46 = .ok (.iload_n 2, 1) := by decide +kernel
theorem dX5_take_47 : decode cX5_take 47 = .ok (.putfield 9, 3) := by decide +kernel
theorem dX5_take_50 : decode cX5_take 50 = .ok (.return_, 1) := by decide +kernel
theorem dX6_init_0 : decode cX6_init 0 = .ok (.aload_n 0, 1) := by decide +kernel
theorem dX6_init_1 : decode cX6_init 1 = .ok (.invokespecial 3, 3) := by decide +kernel
theorem dX6_init_4 : decode cX6_init 4 = .ok (.aload_n 0, 1) := by decide +kernel
theorem dX6_init_5 : decode cX6_init 5 = .ok (.bipush 24, 2) := by decide +kernel
theorem dX6_init_7 : decode cX6_init 7 = .ok (.newarray .int, 2) := by decide +kernel
theorem dX6_init_9 : decode cX6_init 9 = .ok (.putfield 9, 3) := by decide +kernel
theorem dX6_init_12 : decode cX6_init 12 = .ok (.aload_n 0, 1) := by decide +kernel
theorem dX6_init_13 : decode cX6_init 13 = .ok (.bipush 24, 2) := by decide +kernel
theorem dX6_init_15 : decode cX6_init 15 = .ok (.newarray .int, 2) := by decide +kernel
theorem dX6_init_17 : decode cX6_init 17 = .ok (.putfield 15, 3) := by decide +kernel
theorem dX6_init_20 : decode cX6_init 20 = .ok (.aload_n 0, 1) := by decide +kernel
theorem dX6_init_21 : decode cX6_init 21 = .ok (.bipush 24, 2) := by decide +kernel
theorem dX6_init_23 : decode cX6_init 23 = .ok (.newarray .int, 2) := by decide +kernel
theorem dX6_init_25 : decode cX6_init 25 = .ok (.putfield 18, 3) := by decide +kernel
theorem dX6_init_28 : decode cX6_init 28 = .ok (.aload_n 0, 1) := by decide +kernel
theorem dX6_init_29 : decode cX6_init 29 = .ok (.bipush 25, 2) := by decide +kernel
theorem dX6_init_31 : decode cX6_init 31 = .ok (.newarray .int, 2) := by decide +kernel
theorem dX6_init_33 : decode cX6_init 33 = .ok (.putfield 21, 3) := by decide +kernel
theorem dX6_init_36 : decode cX6_init 36 = .ok (.aload_n 0, 1) := by decide +kernel
theorem dX6_init_37 : decode cX6_init 37 = .ok (.iconst 0, 1) := by decide +kernel
theorem dX6_init_38 : decode cX6_init 38 = .ok (.putfield 24, 3) := by decide +kernel
theorem dX6_init_41 : decode cX6_init 41 = .ok (.aload_n 0, 1) := by decide +kernel
theorem dX6_init_42 : decode cX6_init 42 = .ok (.bipush 24, 2) := by decide +kernel
theorem dX6_init_44 : decode cX6_init 44 = .ok (.newarray .int, 2) := by decide +kernel
theorem dX6_init_46 : decode cX6_init 46 = .ok (.putfield 28, 3) := by decide +kernel
theorem dX6_init_49 : decode cX6_init 49 = .ok (.aload_n 0, 1) := by decide +kernel
theorem dX6_init_50 : decode cX6_init 50 = .ok (.bipush 24, 2) := by decide +kernel
theorem dX6_init_52 : decode cX6_init 52 = .ok (.newarray .int, 2) := by decide +kernel
theorem dX6_init_54 : decode cX6_init 54 = .ok (.putfield 31, 3) := by decide +kernel
theorem dX6_init_57 : decode cX6_init 57 = .ok (.aload_n 0, 1) := by decide +kernel
theorem dX6_init_58 : decode cX6_init 58 = .ok (.bipush 24, 2) := by decide +kernel
theorem dX6_init_60 : decode cX6_init 60 = .ok (.newarray .int, 2) := by decide +kernel
theorem dX6_init_62 : decode cX6_init 62 = .ok (.putfield 34, 3) := by decide +kernel
theorem dX6_init_65 : decode cX6_init 65 = .ok (.aload_n 0, 1) := by decide +kernel
theorem dX6_init_66 : decode cX6_init 66 = .ok (.bipush 24, 2) := by decide +kernel
theorem dX6_init_68 : decode cX6_init 68 = .ok (.newarray .int, 2) := by decide +kernel
theorem dX6_init_70 : decode cX6_init 70 = .ok (.putfield 37, 3) := by decide +kernel
theorem dX6_init_73 : decode cX6_init 73 = .ok (.aload_n 0, 1) := by decide +kernel
theorem dX6_init_74 : decode cX6_init 74 = .ok (.bipush 24, 2) := by decide +kernel
theorem dX6_init_76 : decode cX6_init 76 = .ok (.newarray .int, 2) := by decide +kernel
theorem dX6_init_78 : decode cX6_init 78 = .ok (.putfield 40, 3) := by decide +kernel
theorem dX6_init_81 : decode cX6_init 81 = .ok (.aload_n 0, 1) := by decide +kernel
theorem dX6_init_82 : decode cX6_init 82 = .ok (.iconst 0, 1) := by decide +kernel
theorem dX6_init_83 : decode cX6_init 83 = .ok (.putfield 43, 3) := by decide +kernel
theorem dX6_init_86 : decode cX6_init 86 = .ok (.aload_n 0, 1) := by decide +kernel
theorem dX6_init_87 : decode cX6_init 87 = .ok (.iconst 0, 1) := by decide +kernel
theorem dX6_init_88 : decode cX6_init 88 = .ok (.putfield 46, 3) := by decide +kernel
theorem dX6_init_91 : decode cX6_init 91 = .ok (.aload_n 0, 1) := by decide +kernel
theorem dX6_init_92 : decode cX6_init 92 = .ok (.aload_n 1, 1) := by decide +kernel
theorem dX6_init_93 : decode cX6_init 93 = .ok (.putfield 49, 3) := by decide +kernel
theorem dX6_init_96 : decode cX6_init 96 = .ok (.return_, 1) := by decide +kernel
theorem dX6_fits_0 : decode cX6_fits 0 = .ok (.aload_n 0, 1) := by decide +kernel
theorem dX6_fits_1 : decode cX6_fits 1 = .ok (.aload_n 1, 1) := by decide +kernel
theorem dX6_fits_2 : decode cX6_fits 2 = .ok (.invokevirtual 53, 3) := by decide +kernel
theorem dX6_fits_5 : decode cX6_fits 5 = .ok (.aload_n 0, 1) := by decide +kernel
theorem dX6_fits_6 : decode cX6_fits 6 = .ok (.getfield 24, 3) := by decide +kernel
theorem dX6_fits_9 : decode cX6_fits 9 = .ok (.aload_n 0, 1) := by decide +kernel
theorem dX6_fits_10 : decode cX6_fits 10 = .ok (.getfield 49, 3) := by decide +kernel
theorem dX6_fits_13 : decode cX6_fits 13 = .ok (.getfield 57, 3) := by decide +kernel
theorem dX6_fits_16 : decode cX6_fits 16 = .ok (.aload_n 1, 1) := by decide +kernel
theorem dX6_fits_17 : decode cX6_fits 17 = .ok (.getfield 62, 3) := by decide +kernel
theorem dX6_fits_20 : decode cX6_fits 20 = .ok (.iaload, 1) := by decide +kernel
theorem dX6_fits_21 : decode cX6_fits 21 = .ok (.if_icmp .le 5, 3) := by decide +kernel
theorem dX6_fits_24 : decode cX6_fits 24 = .ok (.iconst 0, 1) := by decide +kernel
theorem dX6_fits_25 : decode cX6_fits 25 = .ok (.ireturn, 1) := by decide +kernel
theorem dX6_fits_26 : decode cX6_fits 26 = .ok (.aload_n 0, 1) := by decide +kernel
theorem dX6_fits_27 : decode cX6_fits 27 = .ok (.getfield 28, 3) := by decide +kernel
theorem dX6_fits_30 : decode cX6_fits 30 = .ok (.iconst 0, 1) := by decide +kernel
theorem dX6_fits_31 : decode cX6_fits 31 = .ok (.aload_n 0, 1) := by decide +kernel
theorem dX6_fits_32 : decode cX6_fits 32 = .ok (.getfield 9, 3) := by decide +kernel
theorem dX6_fits_35 : decode cX6_fits 35 = .ok (.iconst 0, 1) := by decide +kernel
theorem dX6_fits_36 : decode cX6_fits 36 = .ok (.bipush 24, 2) := by decide +kernel
theorem dX6_fits_38 : decode cX6_fits 38 = .ok (.invokestatic 67, 3) := by decide +kernel
theorem dX6_fits_41 : decode cX6_fits 41 = .ok (.iconst 0, 1) := by decide +kernel
theorem dX6_fits_42 : decode cX6_fits 42 = .ok (.istore_n 2, 1) := by decide +kernel
theorem dX6_fits_43 : decode cX6_fits 43 = .ok (.iload_n 2, 1) := by decide +kernel
theorem dX6_fits_44 : decode cX6_fits 44 = .ok (.aload_n 0, 1) := by decide +kernel
theorem dX6_fits_45 : decode cX6_fits 45 = .ok (.getfield 43, 3) := by decide +kernel
theorem dX6_fits_48 : decode cX6_fits 48 = .ok (.if_icmp .gt 40, 3) := by decide +kernel
theorem dX6_fits_51 : decode cX6_fits 51 = .ok (.aload_n 0, 1) := by decide +kernel
theorem dX6_fits_52 : decode cX6_fits 52 = .ok (.invokevirtual 73, 3) := by decide +kernel
theorem dX6_fits_55 : decode cX6_fits 55 = .ok (.istore_n 3, 1) := by decide +kernel
theorem dX6_fits_56 : decode cX6_fits 56 = .ok (.aload_n 0, 1) := by decide +kernel
theorem dX6_fits_57 : decode cX6_fits 57 = .ok (.invokevirtual 77, 3) := by decide +kernel
theorem dX6_fits_60 : decode cX6_fits 60 = .ok (.istore 4, 2) := by decide +kernel
theorem dX6_fits_62 : decode cX6_fits 62 = .ok (.aload_n 0, 1) := by decide +kernel
theorem dX6_fits_63 : decode cX6_fits 63 = .ok (.invokevirtual 80, 3) := by decide +kernel
theorem dX6_fits_66 : decode cX6_fits 66 = .ok (.ifCond .eq 5, 3) := by decide +kernel
theorem dX6_fits_69 : decode cX6_fits 69 = .ok (.iconst 0, 1) := by decide +kernel
theorem dX6_fits_70 : decode cX6_fits 70 = .ok (.ireturn, 1) := by decide +kernel
theorem dX6_fits_71 : decode cX6_fits 71 = .ok (.iload_n 3, 1) := by decide +kernel
theorem dX6_fits_72 : decode cX6_fits 72 = .ok (.ifCond .ne 10, 3) := by decide +kernel
theorem dX6_fits_75 : decode cX6_fits 75 = .ok (.iload 4, 2) := by decide +kernel
theorem dX6_fits_77 : decode cX6_fits 77 = .ok (.ifCond .ne 5, 3) := by decide +kernel
theorem dX6_fits_80 : decode cX6_fits 80 = .ok (.iconst 1, 1) := by decide +kernel
theorem dX6_fits_81 : decode cX6_fits 81 = .ok (.ireturn, 1) := by decide +kernel
theorem dX6_fits_82 : decode cX6_fits 82 = .ok (.iinc 2 1, 3) := by decide +kernel
theorem dX6_fits_85 : decode cX6_fits 85 = .ok (.goto (-42), 3) := by decide +kernel
theorem dX6_fits_88 : decode cX6_fits 88 = .ok (.iconst 0, 1) := by decide +kernel
theorem dX6_fits_89 : decode cX6_fits 89 = .ok (.ireturn, 1) := by decide +kernel
theorem dX6_makeLatest_0 : decode cX6_makeLatest 0 = .ok (.aload_n 0, 1) := by decide +kernel
theorem dX6_makeLatest_1 : decode cX6_makeLatest 1 = .ok (.aload_n 1, 1) := by decide +kernel
theorem dX6_makeLatest_2 : decode cX6_makeLatest 2 = .ok (.invokevirtual 53, 3) := by decide +kernel
theorem dX6_makeLatest_5 : decode cX6_makeLatest 5 = .ok (.aload_n 0, 1) := by decide +kernel
theorem dX6_makeLatest_6 : decode cX6_makeLatest 6 = .ok (.getfield 31, 3) := by decide +kernel
theorem dX6_makeLatest_9 : decode cX6_makeLatest 9 = .ok (.iconst 0, 1) := by decide +kernel
theorem dX6_makeLatest_10 : decode cX6_makeLatest 10 = .ok (.aload_n 0, 1) := by decide +kernel
theorem dX6_makeLatest_11 : decode cX6_makeLatest 11 = .ok (.getfield 15, 3) := by decide +kernel
theorem dX6_makeLatest_14 : decode cX6_makeLatest 14 = .ok (.iconst 0, 1) := by decide +kernel
theorem dX6_makeLatest_15 : decode cX6_makeLatest 15 = .ok (.bipush 24, 2) := by decide +kernel
theorem dX6_makeLatest_17 : decode cX6_makeLatest 17 = .ok (.invokestatic 67, 3) := by decide +kernel
theorem dX6_makeLatest_20 : decode cX6_makeLatest 20 = .ok (.iconst 0, 1) := by decide +kernel
theorem dX6_makeLatest_21 : decode cX6_makeLatest 21 = .ok (.istore_n 2, 1) := by decide +kernel
theorem dX6_makeLatest_22 : decode cX6_makeLatest 22 = .ok (.iload_n 2, 1) := by decide +kernel
theorem dX6_makeLatest_23 : decode cX6_makeLatest 23 = .ok (.aload_n 0, 1) := by decide +kernel
theorem dX6_makeLatest_24 : decode cX6_makeLatest 24 = .ok (.getfield 43, 3) := by decide +kernel
theorem dX6_makeLatest_27 : decode cX6_makeLatest 27 = .ok (.if_icmp .gt 30, 3) := by decide +kernel
theorem dX6_makeLatest_30 : decode cX6_makeLatest 30 = .ok (.aload_n 0, 1) := by decide +kernel
theorem dX6_makeLatest_31 : decode cX6_makeLatest 31 = .ok (.invokevirtual 83, 3) := by decide +kernel
theorem dX6_makeLatest_34 : decode cX6_makeLatest 34 = .ok (.istore_n 3, 1) := by decide +kernel
theorem dX6_makeLatest_35 : decode cX6_makeLatest 35 = .ok (.aload_n 0, 1) := by decide +kernel
theorem dX6_makeLatest_36 : decode cX6_makeLatest 36 = .ok (.invokevirtual 86, 3) := by decide +kernel
theorem dX6_makeLatest_39 : decode cX6_makeLatest 39 = .ok (.istore 4, 2) := by decide +kernel
theorem dX6_makeLatest_41 : decode cX6_makeLatest 41 = .ok (.iload_n 3, 1) := by decide +kernel
theorem dX6_makeLatest_42 : decode cX6_makeLatest 42 = .ok (.ifCond .ne 9, 3) := by decide +kernel
theorem dX6_makeLatest_45 : decode cX6_makeLatest 45 = .ok (.iload 4, 2) := by decide +kernel
theorem dX6_makeLatest_47 : decode cX6_makeLatest 47 = .ok (.ifCond .ne 4, 3) := by decide +kernel
theorem dX6_makeLatest_50 : decode cX6_makeLatest 50 = .ok (.return_, 1) := by decide +kernel
theorem dX6_makeLatest_51 : decode cX6_makeLatest 51 = .ok (.iinc 2 1, 3) := by decide +kernel
theorem dX6_makeLatest_54 : decode cX6_makeLatest 54 = .ok (.goto (-32), 3) := by decide +kernel
theorem dX6_makeLatest_57 : decode cX6_makeLatest 57 = .ok (.return_, 1) := by decide +kernel
theorem dX6_waitBefore_0 : decode cX6_waitBefore 0 = .ok (.aload_n 0, 1) := by decide +kernel
theorem dX6_waitBefore_1 : decode cX6_waitBefore 1 = .ok (.getfield 9, 3) := by decide +kernel
theorem dX6_waitBefore_4 : decode cX6_waitBefore 4 = .ok (.iload_n 1, 1) := by decide +kernel
theorem dX6_waitBefore_5 : decode cX6_waitBefore 5 = .ok (.iaload, 1) := by decide +kernel
theorem dX6_waitBefore_6 : decode cX6_waitBefore 6 = .ok (.aload_n 0, 1) := by decide +kernel
theorem dX6_waitBefore_7 : decode cX6_waitBefore 7 = .ok (.getfield 21, 3) := by decide +kernel
theorem dX6_waitBefore_10 : decode cX6_waitBefore 10 = .ok (.iload_n 1, 1) := by decide +kernel
theorem dX6_waitBefore_11 : decode cX6_waitBefore 11 = .ok (.iaload, 1) := by decide +kernel
theorem dX6_waitBefore_12 : decode cX6_waitBefore 12 = .ok (.isub, 1) := by decide +kernel
theorem dX6_waitBefore_13 : decode cX6_waitBefore 13 = .ok (.iload_n 1, 1) := by decide +kernel
theorem dX6_waitBefore_14 : decode cX6_waitBefore 14 = .ok (.ifCond .ne 10, 3) := by decide +kernel
theorem dX6_waitBefore_17 : decode cX6_waitBefore 17 = .ok (.aload_n 0, 1) := by decide +kernel
theorem dX6_waitBefore_18 : decode cX6_waitBefore 18 = .ok (.getfield 46, 3) := by decide +kernel
theorem dX6_waitBefore_21 : decode cX6_waitBefore 21 = .ok (.goto 11, 3) := by decide +kernel
theorem dX6_waitBefore_24 : decode cX6_waitBefore 24 = .ok (.aload_n 0, 1) := by decide +kernel
theorem dX6_waitBefore_25 : decode cX6_waitBefore 25 = .ok (.getfield 9, 3) := by decide +kernel
theorem dX6_waitBefore_28 : decode cX6_waitBefore 28 = .ok (.iload_n 1, 1) := by decide +kernel
theorem dX6_waitBefore_29 : decode cX6_waitBefore 29 = .ok (.iconst 1, 1) := by decide +kernel
theorem dX6_waitBefore_30 : decode cX6_waitBefore 30 = .ok (.isub, 1) := by decide +kernel
theorem dX6_waitBefore_31 : decode cX6_waitBefore 31 = .ok (.iaload, 1) := by decide +kernel
theorem dX6_waitBefore_32 : decode cX6_waitBefore 32 = .ok (.isub, 1) := by decide +kernel
theorem dX6_waitBefore_33 : decode cX6_waitBefore 33 = .ok (.ireturn, 1) := by decide +kernel
theorem dX6_minutesAboard_0 : decode cX6_minutesAboard 0 = .ok (.aload_n 0, 1) := by decide +kernel
theorem dX6_minutesAboard_1 : decode cX6_minutesAboard 1 = .ok (.getfield 34, 3) := by decide +kernel
theorem dX6_minutesAboard_4 : decode cX6_minutesAboard 4 = .ok (.iconst 2, 1) := by decide +kernel
theorem dX6_minutesAboard_5 : decode cX6_minutesAboard 5 = .ok (.iload_n 2, 1) := by decide +kernel
theorem dX6_minutesAboard_6 : decode cX6_minutesAboard 6 = .ok (.imul, 1) := by decide +kernel
theorem dX6_minutesAboard_7 : decode cX6_minutesAboard 7 = .ok (.iaload, 1) := by decide +kernel
theorem dX6_minutesAboard_8 : decode cX6_minutesAboard 8 = .ok (.istore_n 3, 1) := by decide +kernel
theorem dX6_minutesAboard_9 : decode cX6_minutesAboard 9 = .ok (.aload_n 0, 1) := by decide +kernel
theorem dX6_minutesAboard_10 : decode cX6_minutesAboard 10 = .ok (.getfield 34, 3) := by decide +kernel
theorem dX6_minutesAboard_13 : decode cX6_minutesAboard 13 = .ok (.iconst 2, 1) := by decide +kernel
theorem dX6_minutesAboard_14 : decode cX6_minutesAboard 14 = .ok (.iload_n 2, 1) := by decide +kernel
theorem dX6_minutesAboard_15 : decode cX6_minutesAboard 15 = .ok (.imul, 1) := by decide +kernel
theorem dX6_minutesAboard_16 : decode cX6_minutesAboard 16 = .ok (.iconst 1, 1) := by decide +kernel
theorem dX6_minutesAboard_17 : decode cX6_minutesAboard 17 = .ok (.iadd, 1) := by decide +kernel
theorem dX6_minutesAboard_18 : decode cX6_minutesAboard 18 = .ok (.iaload, 1) := by decide +kernel
theorem dX6_minutesAboard_19 : decode cX6_minutesAboard 19 = .ok (.istore 4, 2) := by decide +kernel
theorem dX6_minutesAboard_21 : decode cX6_minutesAboard 21 = .ok (.aload_n 1, 1) := by decide +kernel
theorem dX6_minutesAboard_22 : decode cX6_minutesAboard 22 = .ok (.iload 4, 2) := by decide +kernel
theorem dX6_minutesAboard_24 : decode cX6_minutesAboard 24 = .ok (.iaload, 1) := by decide +kernel
theorem dX6_minutesAboard_25 : decode cX6_minutesAboard 25 = .ok (.aload_n 1, 1) := by decide +kernel
theorem dX6_minutesAboard_26 : decode cX6_minutesAboard 26 = .ok (.iload_n 3, 1) := by decide +kernel
theorem dX6_minutesAboard_27 : decode cX6_minutesAboard 27 = .ok (.iaload, 1) := by decide +kernel
theorem dX6_minutesAboard_28 : decode cX6_minutesAboard 28 = .ok (.isub, 1) := by decide +kernel
theorem dX6_minutesAboard_29 : decode cX6_minutesAboard 29 = .ok (.aload_n 0, 1) := by decide +kernel
theorem dX6_minutesAboard_30 : decode cX6_minutesAboard 30 = .ok (.getfield 49, 3) := by decide +kernel
theorem dX6_minutesAboard_33 : decode cX6_minutesAboard 33 = .ok (.getfield 89, 3) := by decide +kernel
theorem dX6_minutesAboard_36 : decode cX6_minutesAboard 36 = .ok (.isub, 1) := by decide +kernel
theorem dX6_minutesAboard_37 : decode cX6_minutesAboard 37 = .ok (.ireturn, 1) := by decide +kernel
theorem dX6_lookAt_0 : decode cX6_lookAt 0 = .ok (.aload_n 1, 1) := by decide +kernel
theorem dX6_lookAt_1 : decode cX6_lookAt 1 = .ok (.getfield 92, 3) := by decide +kernel
theorem dX6_lookAt_4 : decode cX6_lookAt 4 = .ok (.istore_n 2, 1) := by decide +kernel
theorem dX6_lookAt_5 : decode cX6_lookAt 5 = .ok (.iconst 0, 1) := by decide +kernel
theorem dX6_lookAt_6 : decode cX6_lookAt 6 = .ok (.istore_n 3, 1) := by decide +kernel
theorem dX6_lookAt_7 : decode cX6_lookAt 7 = .ok (.aload_n 0, 1) := by decide +kernel
theorem dX6_lookAt_8 : decode cX6_lookAt 8 = .ok (.aload_n 1, 1) := by decide +kernel
theorem dX6_lookAt_9 : decode cX6_lookAt 9 = .ok (.getfield 95, 3) := by decide +kernel
theorem dX6_lookAt_12 : decode cX6_lookAt 12 = .ok (.putfield 43, 3) := by decide +kernel
theorem dX6_lookAt_15 : decode cX6_lookAt 15 = .ok (.aload_n 0, 1) := by decide +kernel
theorem dX6_lookAt_16 : decode cX6_lookAt 16 = .ok (.aload_n 0, 1) := by decide +kernel
theorem dX6_lookAt_17 : decode cX6_lookAt 17 = .ok (.getfield 49, 3) := by decide +kernel
theorem dX6_lookAt_20 : decode cX6_lookAt 20 = .ok (.getfield 96, 3) := by decide +kernel
theorem dX6_lookAt_23 : decode cX6_lookAt 23 = .ok (.aload_n 1, 1) := by decide +kernel
theorem dX6_lookAt_24 : decode cX6_lookAt 24 = .ok (.getfield 62, 3) := by decide +kernel
theorem dX6_lookAt_27 : decode cX6_lookAt 27 = .ok (.iaload, 1) := by decide +kernel
theorem dX6_lookAt_28 : decode cX6_lookAt 28 = .ok (.putfield 46, 3) := by decide +kernel
theorem dX6_lookAt_31 : decode cX6_lookAt 31 = .ok (.aload_n 0, 1) := by decide +kernel
theorem dX6_lookAt_32 : decode cX6_lookAt 32 = .ok (.iconst 0, 1) := by decide +kernel
theorem dX6_lookAt_33 : decode cX6_lookAt 33 = .ok (.putfield 24, 3) := by decide +kernel
theorem dX6_lookAt_36 : decode cX6_lookAt 36 = .ok (.iconst 0, 1) := by decide +kernel
theorem dX6_lookAt_37 : decode cX6_lookAt 37 = .ok (.istore 4, 2) := by decide +kernel
theorem dX6_lookAt_39 : decode cX6_lookAt 39 = .ok (.iload 4, 2) := by decide +kernel
theorem dX6_lookAt_41 : decode cX6_lookAt 41 = .ok (.aload_n 0, 1) := by decide +kernel
theorem dX6_lookAt_42 : decode cX6_lookAt 42 = .ok (.getfield 43, 3) := by decide +kernel
theorem dX6_lookAt_45 : decode cX6_lookAt 45 = .ok (.if_icmp .ge 187, 3) := by decide +kernel
theorem dX6_lookAt_48 : decode cX6_lookAt 48 = .ok (.aload_n 1, 1) := by decide +kernel
theorem dX6_lookAt_49 : decode cX6_lookAt 49 = .ok (.getfield 98, 3) := by decide +kernel
theorem dX6_lookAt_52 : decode cX6_lookAt 52 = .ok (.iload 4, 2) := by decide +kernel
theorem dX6_lookAt_54 : decode cX6_lookAt 54 = .ok (.iaload, 1) := by decide +kernel
theorem dX6_lookAt_55 : decode cX6_lookAt 55 = .ok (.istore 5, 2) := by decide +kernel
theorem dX6_lookAt_57 : decode cX6_lookAt 57 = .ok (.iload_n 3, 1) := by decide +kernel
theorem dX6_lookAt_58 : decode cX6_lookAt 58 = .ok (.aload_n 0, 1) := by decide +kernel
theorem dX6_lookAt_59 : decode cX6_lookAt 59 = .ok (.getfield 49, 3) := by decide +kernel
theorem dX6_lookAt_62 : decode cX6_lookAt 62 = .ok (.getfield 101, 3) := by decide +kernel
theorem dX6_lookAt_65 : decode cX6_lookAt 65 = .ok (.iload 5, 2) := by decide +kernel
theorem dX6_lookAt_67 : decode cX6_lookAt 67 = .ok (.iaload, 1) := by decide +kernel
theorem dX6_lookAt_68 : decode cX6_lookAt 68 = .ok (.iadd, 1) := by decide +kernel
theorem dX6_lookAt_69 : decode cX6_lookAt 69 = .ok (.istore_n 3, 1) := by decide +kernel
theorem dX6_lookAt_70 : decode cX6_lookAt 70 = .ok (.aload_n 0, 1) := by decide +kernel
theorem dX6_lookAt_71 : decode cX6_lookAt 71 = .ok (.getfield 18, 3) := by decide +kernel
theorem dX6_lookAt_74 : decode cX6_lookAt 74 = .ok (.iload 4, 2) := by decide +kernel
theorem dX6_lookAt_76 : decode cX6_lookAt 76 = .ok (.iload_n 3, 1) := by decide +kernel
theorem dX6_lookAt_77 : decode cX6_lookAt 77 = .ok (.iastore, 1) := by decide +kernel
theorem dX6_lookAt_78 : decode cX6_lookAt 78 = .ok (.aload_n 0, 1) := by decide +kernel
theorem dX6_lookAt_79 : decode cX6_lookAt 79 = .ok (.iload_n 3, 1) := by decide +kernel
theorem dX6_lookAt_80 : decode cX6_lookAt 80 = .ok (.aload_n 0, 1) := by decide +kernel
theorem dX6_lookAt_81 : decode cX6_lookAt 81 = .ok (.getfield 24, 3) := by decide +kernel
theorem dX6_lookAt_84 : decode cX6_lookAt 84 = .ok (.if_icmp .le 7, 3) := by decide +kernel
theorem dX6_lookAt_87 : decode cX6_lookAt 87 = .ok (.iload_n 3, 1) := by decide +kernel
theorem dX6_lookAt_88 : decode cX6_lookAt 88 = .ok (.goto 7, 3) := by decide +kernel
theorem dX6_lookAt_91 : decode cX6_lookAt 91 = .ok (.aload_n 0, 1) := by decide +kernel
theorem dX6_lookAt_92 : decode cX6_lookAt 92 = .ok (.getfield 24, 3) := by decide +kernel
theorem dX6_lookAt_95 : decode cX6_lookAt 95 = .ok (.putfield 24, 3) := by decide +kernel
theorem dX6_lookAt_98 : decode cX6_lookAt 98 = .ok (.aload_n 0, 1) := by decide +kernel
theorem dX6_lookAt_99 : decode cX6_lookAt 99 = .ok (.getfield 21, 3) := by decide +kernel
theorem dX6_lookAt_102 : decode cX6_lookAt 102 = .ok (.iload 4, 2) := by decide +kernel
theorem dX6_lookAt_104 : decode cX6_lookAt 104 = .ok (.aload_n 0, 1) := by decide +kernel
theorem dX6_lookAt_105 : decode cX6_lookAt 105 = .ok (.getfield 49, 3) := by decide +kernel
theorem dX6_lookAt_108 : decode cX6_lookAt 108 = .ok (.getfield 104, 3) := by decide +kernel
theorem dX6_lookAt_111 : decode cX6_lookAt 111 = .ok (.iload_n 2, 1) := by decide +kernel
theorem dX6_lookAt_112 : decode cX6_lookAt 112 = .ok (.aaload, 1) := by decide +kernel
theorem dX6_lookAt_113 : decode cX6_lookAt 113 = .ok (.iload 5, 2) := by decide +kernel
theorem dX6_lookAt_115 : decode cX6_lookAt 115 = .ok (.iaload, 1) := by decide +kernel
theorem dX6_lookAt_116 : decode cX6_lookAt 116 = .ok (.iload 4, 2) := by decide +kernel
theorem dX6_lookAt_118 : decode cX6_lookAt 118 = .ok (.ifCond .ne 7, 3) := by decide +kernel
theorem dX6_lookAt_121 : decode cX6_lookAt 121 = .ok (.iconst 0, 1) := by decide +kernel
theorem dX6_lookAt_122 : decode cX6_lookAt 122 = .ok (.goto 10, 3) := by decide +kernel
theorem dX6_lookAt_125 : decode cX6_lookAt 125 = .ok (.aload_n 0, 1) := by decide +kernel
theorem dX6_lookAt_126 : decode cX6_lookAt 126 = .ok (.getfield 49, 3) := by decide +kernel
theorem dX6_lookAt_129 : decode cX6_lookAt 129 = .ok (.getfield 89, 3) := by decide +kernel
theorem dX6_lookAt_132 : decode cX6_lookAt 132 = .ok (.iadd, 1) := by decide +kernel
theorem dX6_lookAt_133 : decode cX6_lookAt 133 = .ok (.iastore, 1) := by decide +kernel
theorem dX6_lookAt_134 : decode cX6_lookAt 134 = .ok (.aload_n 0, 1) := by decide +kernel
theorem dX6_lookAt_135 : decode cX6_lookAt 135 = .ok (.getfield 28, 3) := by decide +kernel
theorem dX6_lookAt_138 : decode cX6_lookAt 138 = .ok (.iload 4, 2) := by decide +kernel
theorem dX6_lookAt_140 : decode cX6_lookAt 140 = .ok (.aload_n 0, 1) := by decide +kernel
theorem dX6_lookAt_141 : decode cX6_lookAt 141 = .ok (.getfield 49, 3) := by decide +kernel
theorem dX6_lookAt_144 : decode cX6_lookAt 144 = .ok (.getfield 108, 3) := by decide +kernel
theorem dX6_lookAt_147 : decode cX6_lookAt 147 = .ok (.iload 5, 2) := by decide +kernel
theorem dX6_lookAt_149 : decode cX6_lookAt 149 = .ok (.iaload, 1) := by decide +kernel
theorem dX6_lookAt_150 : decode cX6_lookAt 150 = .ok (.iastore, 1) := by decide +kernel
theorem dX6_lookAt_151 : decode cX6_lookAt 151 = .ok (.aload_n 0, 1) := by decide +kernel
theorem dX6_lookAt_152 : decode cX6_lookAt 152 = .ok (.getfield 31, 3) := by decide +kernel
theorem dX6_lookAt_155 : decode cX6_lookAt 155 = .ok (.iload 4, 2) := by decide +kernel
theorem dX6_lookAt_157 : decode cX6_lookAt 157 = .ok (.aload_n 0, 1) := by decide +kernel
theorem dX6_lookAt_158 : decode cX6_lookAt 158 = .ok (.getfield 49, 3) := by decide +kernel
theorem dX6_lookAt_161 : decode cX6_lookAt 161 = .ok (.getfield 111, 3) := by decide +kernel
theorem dX6_lookAt_164 : decode cX6_lookAt 164 = .ok (.iload 5, 2) := by decide +kernel
theorem dX6_lookAt_166 : decode cX6_lookAt 166 = .ok (.iaload, 1) := by decide +kernel
theorem dX6_lookAt_167 : decode cX6_lookAt 167 = .ok (.iastore, 1) := by decide +kernel
theorem dX6_lookAt_168 : decode cX6_lookAt 168 = .ok (.aload_n 0, 1) := by decide +kernel
theorem dX6_lookAt_169 : decode cX6_lookAt 169 = .ok (.getfield 34, 3) := by decide +kernel
theorem dX6_lookAt_172 : decode cX6_lookAt 172 = .ok (.iload 5, 2) := by decide +kernel
theorem dX6_lookAt_174 : decode cX6_lookAt 174 = .ok (.iload 4, 2) := by decide +kernel
theorem dX6_lookAt_176 : decode cX6_lookAt 176 = .ok (.iastore, 1) := by decide +kernel
theorem dX6_lookAt_177 : decode cX6_lookAt 177 = .ok (.aload_n 0, 1) := by decide +kernel
theorem dX6_lookAt_178 : decode cX6_lookAt 178 = .ok (.getfield 37, 3) := by decide +kernel
theorem dX6_lookAt_181 : decode cX6_lookAt 181 = .ok (.iload 4, 2) := by decide +kernel
theorem dX6_lookAt_183 : decode cX6_lookAt 183 = .ok (.aload_n 0, 1) := by decide +kernel
theorem dX6_lookAt_184 : decode cX6_lookAt 184 = .ok (.getfield 34, 3) := by decide +kernel
theorem dX6_lookAt_187 : decode cX6_lookAt 187 = .ok (.iload 5, 2) := by decide +kernel
theorem dX6_lookAt_189 : decode cX6_lookAt 189 = .ok (.iload 5, 2) := by decide +kernel
theorem dX6_lookAt_191 : decode cX6_lookAt 191 = .ok (.iconst 2, 1) := by decide +kernel
theorem dX6_lookAt_192 : decode cX6_lookAt 192 = .ok (.irem, 1) := by decide +kernel
theorem dX6_lookAt_193 : decode cX6_lookAt 193 = .ok (.isub, 1) := by decide +kernel
theorem dX6_lookAt_194 : decode cX6_lookAt 194 = .ok (.iaload, 1) := by decide +kernel
theorem dX6_lookAt_195 : decode cX6_lookAt 195 = .ok (.iastore, 1) := by decide +kernel
theorem dX6_lookAt_196 : decode cX6_lookAt 196 = .ok (.aload_n 0, 1) := by decide +kernel
theorem dX6_lookAt_197 : decode cX6_lookAt 197 = .ok (.getfield 40, 3) := by decide +kernel
theorem dX6_lookAt_200 : decode cX6_lookAt 200 = .ok (.iload 4, 2) := by decide +kernel
theorem dX6_lookAt_202 : decode cX6_lookAt 202 = .ok (.aload_n 0, 1) := by decide +kernel
theorem dX6_lookAt_203 : decode cX6_lookAt 203 = .ok (.getfield 49, 3) := by decide +kernel
theorem dX6_lookAt_206 : decode cX6_lookAt 206 = .ok (.getfield 89, 3) := by decide +kernel
theorem dX6_lookAt_209 : decode cX6_lookAt 209 = .ok (.aload_n 0, 1) := by decide +kernel
theorem dX6_lookAt_210 : decode cX6_lookAt 210 = .ok (.getfield 49, 3) := by decide +kernel
theorem dX6_lookAt_213 : decode cX6_lookAt 213 = .ok (.getfield 114, 3) := by decide +kernel
theorem dX6_lookAt_216 : decode cX6_lookAt 216 = .ok (.iload 5, 2) := by decide +kernel
theorem dX6_lookAt_218 : decode cX6_lookAt 218 = .ok (.iconst 2, 1) := by decide +kernel
theorem dX6_lookAt_219 : decode cX6_lookAt 219 = .ok (.idiv, 1) := by decide +kernel
theorem dX6_lookAt_220 : decode cX6_lookAt 220 = .ok (.iaload, 1) := by decide +kernel
theorem dX6_lookAt_221 : decode cX6_lookAt 221 = .ok (.iadd, 1) := by decide +kernel
theorem dX6_lookAt_222 : decode cX6_lookAt 222 = .ok (.iastore, 1) := by decide +kernel
theorem dX6_lookAt_223 : decode cX6_lookAt 223 = .ok (.iload 5, 2) := by decide +kernel
theorem dX6_lookAt_225 : decode cX6_lookAt 225 = .ok (.istore_n 2, 1) := by decide +kernel
theorem dX6_lookAt_226 : decode cX6_lookAt 226 = .ok (.iinc 4 1, 3) := by decide +kernel
theorem dX6_lookAt_229 : decode cX6_lookAt 229 = .ok (.goto (-190), 3) := by decide +kernel
theorem dX6_lookAt_232 : decode cX6_lookAt 232 = .ok (.aload_n 0, 1) := by decide +kernel
theorem dX6_lookAt_233 : decode cX6_lookAt 233 = .ok (.getfield 43, 3) := by decide +kernel
theorem dX6_lookAt_236 : decode cX6_lookAt 236 = .ok (.ifCond .le 142, 3) := by decide +kernel
theorem dX6_lookAt_239 : decode cX6_lookAt 239 = .ok (.aload_n 0, 1) := by decide +kernel
theorem dX6_lookAt_240 : decode cX6_lookAt 240 = .ok (.getfield 46, 3) := by decide +kernel
theorem dX6_lookAt_243 : decode cX6_lookAt 243 = .ok (.aload_n 0, 1) := by decide +kernel
theorem dX6_lookAt_244 : decode cX6_lookAt 244 = .ok (.getfield 21, 3) := by decide +kernel
theorem dX6_lookAt_247 : decode cX6_lookAt 247 = .ok (.iconst 0, 1) := by decide +kernel
theorem dX6_lookAt_248 : decode cX6_lookAt 248 = .ok (.iaload, 1) := by decide +kernel
theorem dX6_lookAt_249 : decode cX6_lookAt 249 = .ok (.iadd, 1) := by decide +kernel
theorem dX6_lookAt_250 : decode cX6_lookAt 250 = .ok (.istore 4, 2) := by decide +kernel
theorem dX6_lookAt_252 : decode cX6_lookAt 252 = .ok (.aload_n 0, 1) := by decide +kernel
theorem dX6_lookAt_253 : decode cX6_lookAt 253 = .ok (.getfield 28, 3) := by decide +kernel
theorem dX6_lookAt_256 : decode cX6_lookAt 256 = .ok (.iconst 0, 1) := by decide +kernel
theorem dX6_lookAt_257 : decode cX6_lookAt 257 = .ok (.iload 4, 2) := by decide +kernel
theorem dX6_lookAt_259 : decode cX6_lookAt 259 = .ok (.aload_n 0, 1) := by decide +kernel
theorem dX6_lookAt_260 : decode cX6_lookAt 260 = .ok (.getfield 28, 3) := by decide +kernel
theorem dX6_lookAt_263 : decode cX6_lookAt 263 = .ok (.iconst 0, 1) := by decide +kernel
theorem dX6_lookAt_264 : decode cX6_lookAt 264 = .ok (.iaload, 1) := by decide +kernel
theorem dX6_lookAt_265 : decode cX6_lookAt 265 = .ok (.if_icmp .le 8, 3) := by decide +kernel
theorem dX6_lookAt_268 : decode cX6_lookAt 268 = .ok (.iload 4, 2) := by decide +kernel
theorem dX6_lookAt_270 : decode cX6_lookAt 270 = .ok (.goto 9, 3) := by decide +kernel
theorem dX6_lookAt_273 : decode cX6_lookAt 273 = .ok (.aload_n 0, 1) := by decide +kernel
theorem dX6_lookAt_274 : decode cX6_lookAt 274 = .ok (.getfield 28, 3) := by decide +kernel
theorem dX6_lookAt_277 : decode cX6_lookAt 277 = .ok (.iconst 0, 1) := by decide +kernel
theorem dX6_lookAt_278 : decode cX6_lookAt 278 = .ok (.iaload, 1) := by decide +kernel
theorem dX6_lookAt_279 : decode cX6_lookAt 279 = .ok (.iastore, 1) := by decide +kernel
theorem dX6_lookAt_280 : decode cX6_lookAt 280 = .ok (.aload_n 0, 1) := by decide +kernel
theorem dX6_lookAt_281 : decode cX6_lookAt 281 = .ok (.getfield 21, 3) := by decide +kernel
theorem dX6_lookAt_284 : decode cX6_lookAt 284 = .ok (.aload_n 0, 1) := by decide +kernel
theorem dX6_lookAt_285 : decode cX6_lookAt 285 = .ok (.getfield 43, 3) := by decide +kernel
theorem dX6_lookAt_288 : decode cX6_lookAt 288 = .ok (.aload_n 0, 1) := by decide +kernel
theorem dX6_lookAt_289 : decode cX6_lookAt 289 = .ok (.getfield 49, 3) := by decide +kernel
theorem dX6_lookAt_292 : decode cX6_lookAt 292 = .ok (.getfield 104, 3) := by decide +kernel
theorem dX6_lookAt_295 : decode cX6_lookAt 295 = .ok (.iload_n 2, 1) := by decide +kernel
theorem dX6_lookAt_296 : decode cX6_lookAt 296 = .ok (.aaload, 1) := by decide +kernel
theorem dX6_lookAt_297 : decode cX6_lookAt 297 = .ok (.aload_n 1, 1) := by decide +kernel
theorem dX6_lookAt_298 : decode cX6_lookAt 298 = .ok (.getfield 92, 3) := by decide +kernel
theorem dX6_lookAt_301 : decode cX6_lookAt 301 = .ok (.iaload, 1) := by decide +kernel
theorem dX6_lookAt_302 : decode cX6_lookAt 302 = .ok (.aload_n 0, 1) := by decide +kernel
theorem dX6_lookAt_303 : decode cX6_lookAt 303 = .ok (.getfield 49, 3) := by decide +kernel
theorem dX6_lookAt_306 : decode cX6_lookAt 306 = .ok (.getfield 89, 3) := by decide +kernel
theorem dX6_lookAt_309 : decode cX6_lookAt 309 = .ok (.iadd, 1) := by decide +kernel
theorem dX6_lookAt_310 : decode cX6_lookAt 310 = .ok (.iastore, 1) := by decide +kernel
theorem dX6_lookAt_311 : decode cX6_lookAt 311 = .ok (.aload_n 0, 1) := by decide +kernel
theorem dX6_lookAt_312 : decode cX6_lookAt 312 = .ok (.getfield 49, 3) := by decide +kernel
theorem dX6_lookAt_315 : decode cX6_lookAt 315 = .ok (.getfield 117, 3) := by decide +kernel
theorem dX6_lookAt_318 : decode cX6_lookAt 318 = .ok (.aload_n 1, 1) := by decide +kernel
theorem dX6_lookAt_319 : decode cX6_lookAt 319 = .ok (.getfield 62, 3) := by decide +kernel
theorem dX6_lookAt_322 : decode cX6_lookAt 322 = .ok (.iaload, 1) := by decide +kernel
theorem dX6_lookAt_323 : decode cX6_lookAt 323 = .ok (.aload_n 0, 1) := by decide +kernel
theorem dX6_lookAt_324 : decode cX6_lookAt 324 = .ok (.getfield 21, 3) := by decide +kernel
theorem dX6_lookAt_327 : decode cX6_lookAt 327 = .ok (.aload_n 0, 1) := by decide +kernel
theorem dX6_lookAt_328 : decode cX6_lookAt 328 = .ok (.getfield 43, 3) := by decide +kernel
theorem dX6_lookAt_331 : decode cX6_lookAt 331 = .ok (.iaload, 1) := by decide +kernel
theorem dX6_lookAt_332 : decode cX6_lookAt 332 = .ok (.isub, 1) := by decide +kernel
theorem dX6_lookAt_333 : decode cX6_lookAt 333 = .ok (.istore 5, 2) := by decide +kernel
theorem dX6_lookAt_335 : decode cX6_lookAt 335 = .ok (.aload_n 0, 1) := by decide +kernel
theorem dX6_lookAt_336 : decode cX6_lookAt 336 = .ok (.getfield 31, 3) := by decide +kernel
theorem dX6_lookAt_339 : decode cX6_lookAt 339 = .ok (.aload_n 0, 1) := by decide +kernel
theorem dX6_lookAt_340 : decode cX6_lookAt 340 = .ok (.getfield 43, 3) := by decide +kernel
theorem dX6_lookAt_343 : decode cX6_lookAt 343 = .ok (.iconst 1, 1) := by decide +kernel
theorem dX6_lookAt_344 : decode cX6_lookAt 344 = .ok (.isub, 1) := by decide +kernel
theorem dX6_lookAt_345 : decode cX6_lookAt 345 = .ok (.iload 5, 2) := by decide +kernel
theorem dX6_lookAt_347 : decode cX6_lookAt 347 = .ok (.aload_n 0, 1) := by decide +kernel
theorem dX6_lookAt_348 : decode cX6_lookAt 348 = .ok (.getfield 31, 3) := by decide +kernel
theorem dX6_lookAt_351 : decode cX6_lookAt 351 = .ok (.aload_n 0, 1) := by decide +kernel
theorem dX6_lookAt_352 : decode cX6_lookAt 352 = .ok (.getfield 43, 3) := by decide +kernel
theorem dX6_lookAt_355 : decode cX6_lookAt 355 = .ok (.iconst 1, 1) := by decide +kernel
theorem dX6_lookAt_356 : decode cX6_lookAt 356 = .ok (.isub, 1) := by decide +kernel
theorem dX6_lookAt_357 : decode cX6_lookAt 357 = .ok (.iaload, 1) := by decide +kernel
theorem dX6_lookAt_358 : decode cX6_lookAt 358 = .ok (.if_icmp .ge 8, 3) := by decide +kernel
theorem dX6_lookAt_361 : decode cX6_lookAt 361 = .ok (.iload 5, 2) := by decide +kernel
theorem dX6_lookAt_363 : decode cX6_lookAt 363 = .ok (.goto 14, 3) := by decide +kernel
theorem dX6_lookAt_366 : decode cX6_lookAt 366 = .ok (.aload_n 0, 1) := by decide +kernel
theorem dX6_lookAt_367 : decode cX6_lookAt 367 = .ok (.getfield 31, 3) := by decide +kernel
theorem dX6_lookAt_370 : decode cX6_lookAt 370 = .ok (.aload_n 0, 1) := by decide +kernel
theorem dX6_lookAt_371 : decode cX6_lookAt 371 = .ok (.getfield 43, 3) := by decide +kernel
theorem dX6_lookAt_374 : decode cX6_lookAt 374 = .ok (.iconst 1, 1) := by decide +kernel
theorem dX6_lookAt_375 : decode cX6_lookAt 375 = .ok (.isub, 1) := by decide +kernel
theorem dX6_lookAt_376 : decode cX6_lookAt 376 = .ok (.iaload, 1) := by decide +kernel
theorem dX6_lookAt_377 : decode cX6_lookAt 377 = .ok (.iastore, 1) := by decide +kernel
theorem dX6_lookAt_378 : decode cX6_lookAt 378 = .ok (.return_, 1) := by decide +kernel
theorem dX6_delayStops_0 : decode cX6_delayStops 0 = .ok (.iconst 0, 1) := by decide +kernel
theorem dX6_delayStops_1 : decode cX6_delayStops 1 = .ok (.istore_n 1, 1) := by decide +kernel
theorem dX6_delayStops_2 : decode cX6_delayStops 2 = .ok (.iconst 1, 1) := by decide +kernel
theorem dX6_delayStops_3 : decode cX6_delayStops 3 = .ok (.istore_n 2, 1) := by decide +kernel
theorem dX6_delayStops_4 : decode cX6_delayStops 4 = .ok (.iload_n 2, 1) := by decide +kernel
theorem dX6_delayStops_5 : decode cX6_delayStops 5 = .ok (.aload_n 0, 1) := by decide +kernel
theorem dX6_delayStops_6 : decode cX6_delayStops 6 = .ok (.getfield 43, 3) := by decide +kernel
theorem dX6_delayStops_9 : decode cX6_delayStops 9 = .ok (.if_icmp .ge 44, 3) := by decide +kernel
theorem dX6_delayStops_12 : decode cX6_delayStops 12 = .ok (.aload_n 0, 1) := by decide +kernel
theorem dX6_delayStops_13 : decode cX6_delayStops 13 = .ok (.getfield 9, 3) := by decide +kernel
theorem dX6_delayStops_16 : decode cX6_delayStops 16 = .ok (.iload_n 2, 1) := by decide +kernel
theorem dX6_delayStops_17 : decode cX6_delayStops 17 = .ok (.iconst 1, 1) := by decide +kernel
theorem dX6_delayStops_18 : decode cX6_delayStops 18 = .ok (.isub, 1) := by decide +kernel
theorem dX6_delayStops_19 : decode cX6_delayStops 19 = .ok (.iaload, 1) := by decide +kernel
theorem dX6_delayStops_20 : decode cX6_delayStops 20 = .ok (.aload_n 0, 1) := by decide +kernel
theorem dX6_delayStops_21 : decode cX6_delayStops 21 = .ok (.getfield 21, 3) := by decide +kernel
theorem dX6_delayStops_24 : decode cX6_delayStops 24 = .ok (.iload_n 2, 1) := by decide +kernel
theorem dX6_delayStops_25 : decode cX6_delayStops 25 = .ok (.iaload, 1) := by decide +kernel
theorem dX6_delayStops_26 : decode cX6_delayStops 26 = .ok (.iadd, 1) := by decide +kernel
theorem dX6_delayStops_27 : decode cX6_delayStops 27 = .ok (.istore_n 3, 1) := by decide +kernel
theorem dX6_delayStops_28 : decode cX6_delayStops 28 = .ok (.aload_n 0, 1) := by decide +kernel
theorem dX6_delayStops_29 : decode cX6_delayStops 29 = .ok (.getfield 9, 3) := by decide +kernel
theorem dX6_delayStops_32 : decode cX6_delayStops 32 = .ok (.iload_n 2, 1) := by decide +kernel
theorem dX6_delayStops_33 : decode cX6_delayStops 33 = .ok (.iaload, 1) := by decide +kernel
theorem dX6_delayStops_34 : decode cX6_delayStops 34 = .ok (.iload_n 3, 1) := by decide +kernel
theorem dX6_delayStops_35 : decode cX6_delayStops 35 = .ok (.if_icmp .ge 12, 3) := by decide +kernel
theorem dX6_delayStops_38 : decode cX6_delayStops 38 = .ok (.aload_n 0, 1) := by decide +kernel
theorem dX6_delayStops_39 : decode cX6_delayStops 39 = .ok (.getfield 9, 3) := by decide +kernel
theorem dX6_delayStops_42 : decode cX6_delayStops 42 = .ok (.iload_n 2, 1) := by decide +kernel
theorem dX6_delayStops_43 : decode cX6_delayStops 43 = .ok (.iload_n 3, 1) := by decide +kernel
theorem dX6_delayStops_44 : decode cX6_delayStops 44 = .ok (.iastore, 1) := by decide +kernel
theorem dX6_delayStops_45 : decode cX6_delayStops 45 = .ok (.iconst 1, 1) := by decide +kernel
theorem dX6_delayStops_46 : decode cX6_delayStops 46 = .ok (.istore_n 1, 1) := by decide +kernel
theorem dX6_delayStops_47 : decode cX6_delayStops 47 = .ok (.iinc 2 1, 3) := by decide +kernel
theorem dX6_delayStops_50 : decode cX6_delayStops 50 = .ok (.goto (-46), 3) := by decide +kernel
theorem dX6_delayStops_53 : decode cX6_delayStops 53 = .ok (.iload_n 1, 1) := by decide +kernel
theorem dX6_delayStops_54 : decode cX6_delayStops 54 = .ok (.ireturn, 1) := by decide +kernel
theorem dX6_delayPickups_0 : decode cX6_delayPickups 0 = .ok (.iconst 0, 1) := by decide +kernel
theorem dX6_delayPickups_1 : decode cX6_delayPickups 1 = .ok (.istore_n 1, 1) := by decide +kernel
theorem dX6_delayPickups_2 : decode cX6_delayPickups 2 = .ok (.aload_n 0, 1) := by decide +kernel
theorem dX6_delayPickups_3 : decode cX6_delayPickups 3 = .ok (.getfield 43, 3) := by decide +kernel
theorem dX6_delayPickups_6 : decode cX6_delayPickups 6 = .ok (.iconst 1, 1) := by decide +kernel
theorem dX6_delayPickups_7 : decode cX6_delayPickups 7 = .ok (.isub, 1) := by decide +kernel
theorem dX6_delayPickups_8 : decode cX6_delayPickups 8 = .ok (.istore_n 2, 1) := by decide +kernel
theorem dX6_delayPickups_9 : decode cX6_delayPickups 9 = .ok (.iload_n 2, 1) := by decide +kernel
theorem dX6_delayPickups_10 : decode cX6_delayPickups 10 = .ok (.ifCond .le 52, 3) := by decide +kernel
theorem dX6_delayPickups_13 : decode cX6_delayPickups 13 = .ok (.aload_n 0, 1) := by decide +kernel
theorem dX6_delayPickups_14 : decode cX6_delayPickups 14 = .ok (.getfield 9, 3) := by decide +kernel
theorem dX6_delayPickups_17 : decode cX6_delayPickups 17 = .ok (.iload_n 2, 1) := by decide +kernel
theorem dX6_delayPickups_18 : decode cX6_delayPickups 18 = .ok (.iaload, 1) := by decide +kernel
theorem dX6_delayPickups_19 : decode cX6_delayPickups 19 = .ok (.aload_n 0, 1) := by decide +kernel
theorem dX6_delayPickups_20 : decode cX6_delayPickups 20 = .ok (.getfield 40, 3) := by decide +kernel
theorem dX6_delayPickups_23 : decode cX6_delayPickups 23 = .ok (.iload_n 2, 1) := by decide +kernel
theorem dX6_delayPickups_24 : decode cX6_delayPickups 24 = .ok (.iaload, 1) := by decide +kernel
theorem dX6_delayPickups_25 : decode cX6_delayPickups 25 = .ok (.isub, 1) := by decide +kernel
theorem dX6_delayPickups_26 : decode cX6_delayPickups 26 = .ok (.istore_n 3, 1) := by decide +kernel
theorem dX6_delayPickups_27 : decode cX6_delayPickups 27 = .ok (.aload_n 0, 1) := by decide +kernel
theorem dX6_delayPickups_28 : decode cX6_delayPickups 28 = .ok (.getfield 9, 3) := by decide +kernel
theorem dX6_delayPickups_31 : decode cX6_delayPickups 31 = .ok (.aload_n 0, 1) := by decide +kernel
theorem dX6_delayPickups_32 : decode cX6_delayPickups 32 = .ok (.getfield 37, 3) := by decide +kernel
theorem dX6_delayPickups_35 : decode cX6_delayPickups 35 = .ok (.iload_n 2, 1) := by decide +kernel
theorem dX6_delayPickups_36 : decode cX6_delayPickups 36 = .ok (.iaload, 1) := by decide +kernel
theorem dX6_delayPickups_37 : decode cX6_delayPickups 37 = .ok (.iaload, 1) := by decide +kernel
theorem dX6_delayPickups_38 : decode cX6_delayPickups 38 = .ok (.iload_n 3, 1) := by decide +kernel
theorem dX6_delayPickups_39 : decode cX6_delayPickups 39 = .ok (.if_icmp .ge 17, 3) := by decide +kernel
theorem dX6_delayPickups_42 : decode cX6_delayPickups 42 = .ok (.aload_n 0, 1) := by decide +kernel
theorem dX6_delayPickups_43 : decode cX6_delayPickups 43 = .ok (.getfield 9, 3) := by decide +kernel
theorem dX6_delayPickups_46 : decode cX6_delayPickups 46 = .ok (.aload_n 0, 1) := by decide +kernel
theorem dX6_delayPickups_47 : decode cX6_delayPickups 47 = .ok (.getfield 37, 3) := by decide +kernel
theorem dX6_delayPickups_50 : decode cX6_delayPickups 50 = .ok (.iload_n 2, 1) := by decide +kernel
theorem dX6_delayPickups_51 : decode cX6_delayPickups 51 = .ok (.iaload, 1) := by decide +kernel
theorem dX6_delayPickups_52 : decode cX6_delayPickups 52 = .ok (.iload_n 3, 1) := by decide +kernel
theorem dX6_delayPickups_53 : decode cX6_delayPickups 53 = .ok (.iastore, 1) := by decide +kernel
theorem dX6_delayPickups_54 : decode cX6_delayPickups 54 = .ok (.iconst 1, 1) := by decide +kernel
theorem dX6_delayPickups_55 : decode cX6_delayPickups 55 = .ok (.istore_n 1, 1) := by decide +kernel
theorem dX6_delayPickups_56 : decode cX6_delayPickups 56 = .ok (.iinc 2 (-1), 3) := by decide +kernel
theorem dX6_delayPickups_59 : decode cX6_delayPickups 59 = .ok (.goto (-50), 3) := by decide +kernel
theorem dX6_delayPickups_62 : decode cX6_delayPickups 62 = .ok (.iload_n 1, 1) := by decide +kernel
theorem dX6_delayPickups_63 : decode cX6_delayPickups 63 = .ok (.ireturn, 1) := by decide +kernel
theorem dX6_isTooLate_0 : decode cX6_isTooLate 0 = .ok (.iconst 0, 1) := by decide +kernel
theorem dX6_isTooLate_1 : decode cX6_isTooLate 1 = .ok (.istore_n 1, 1) := by decide +kernel
theorem dX6_isTooLate_2 : decode cX6_isTooLate 2 = .ok (.iload_n 1, 1) := by decide +kernel
theorem dX6_isTooLate_3 : decode cX6_isTooLate 3 = .ok (.aload_n 0, 1) := by decide +kernel
theorem dX6_isTooLate_4 : decode cX6_isTooLate 4 = .ok (.getfield 43, 3) := by decide +kernel
theorem dX6_isTooLate_7 : decode cX6_isTooLate 7 = .ok (.if_icmp .ge 26, 3) := by decide +kernel
theorem dX6_isTooLate_10 : decode cX6_isTooLate 10 = .ok (.aload_n 0, 1) := by decide +kernel
theorem dX6_isTooLate_11 : decode cX6_isTooLate 11 = .ok (.getfield 9, 3) := by decide +kernel
theorem dX6_isTooLate_14 : decode cX6_isTooLate 14 = .ok (.iload_n 1, 1) := by decide +kernel
theorem dX6_isTooLate_15 : decode cX6_isTooLate 15 = .ok (.iaload, 1) := by decide +kernel
theorem dX6_isTooLate_16 : decode cX6_isTooLate 16 = .ok (.aload_n 0, 1) := by decide +kernel
theorem dX6_isTooLate_17 : decode cX6_isTooLate 17 = .ok (.getfield 31, 3) := by decide +kernel
theorem dX6_isTooLate_20 : decode cX6_isTooLate 20 = .ok (.iload_n 1, 1) := by decide +kernel
theorem dX6_isTooLate_21 : decode cX6_isTooLate 21 = .ok (.iaload, 1) := by decide +kernel
theorem dX6_isTooLate_22 : decode cX6_isTooLate 22 = .ok (.if_icmp .le 5, 3) := by decide +kernel
theorem dX6_isTooLate_25 : decode cX6_isTooLate 25 = .ok (.iconst 1, 1) := by decide +kernel
theorem dX6_isTooLate_26 : decode cX6_isTooLate 26 = .ok (.ireturn, 1) := by decide +kernel
theorem dX6_isTooLate_27 : decode cX6_isTooLate 27 = .ok (.iinc 1 1, 3) := by decide +kernel
theorem dX6_isTooLate_30 : decode cX6_isTooLate 30 = .ok (.goto (-28), 3) := by decide +kernel
theorem dX6_isTooLate_33 : decode cX6_isTooLate 33 = .ok (.iconst 0, 1) := by decide +kernel
theorem dX6_isTooLate_34 : decode cX6_isTooLate 34 = .ok (.ireturn, 1) := by decide +kernel
theorem dX6_advanceStops_0 : decode cX6_advanceStops 0 = .ok (.iconst 0, 1) := by decide +kernel
theorem dX6_advanceStops_1 : decode cX6_advanceStops 1 = .ok (.istore_n 1, 1) := by decide +kernel
theorem dX6_advanceStops_2 : decode cX6_advanceStops 2 = .ok (.aload_n 0, 1) := by decide +kernel
theorem dX6_advanceStops_3 : decode cX6_advanceStops 3 = .ok (.getfield 43, 3) := by decide +kernel
theorem dX6_advanceStops_6 : decode cX6_advanceStops 6 = .ok (.iconst 2, 1) := by decide +kernel
theorem dX6_advanceStops_7 : decode cX6_advanceStops 7 = .ok (.isub, 1) := by decide +kernel
theorem dX6_advanceStops_8 : decode cX6_advanceStops 8 = .ok (.istore_n 2, 1) := by decide +kernel
theorem dX6_advanceStops_9 : decode cX6_advanceStops 9 = .ok (.iload_n 2, 1) := by decide +kernel
theorem dX6_advanceStops_10 : decode cX6_advanceStops 10 = .ok (.ifCond .lt 46, 3) := by decide +kernel
theorem dX6_advanceStops_13 : decode cX6_advanceStops 13 = .ok (.aload_n 0, 1) := by decide +kernel
theorem dX6_advanceStops_14 : decode cX6_advanceStops 14 = .ok (.getfield 15, 3) := by decide +kernel
theorem dX6_advanceStops_17 : decode cX6_advanceStops 17 = .ok (.iload_n 2, 1) := by decide +kernel
theorem dX6_advanceStops_18 : decode cX6_advanceStops 18 = .ok (.iconst 1, 1) := by decide +kernel
theorem dX6_advanceStops_19 : decode cX6_advanceStops 19 = .ok (.iadd, 1) := by decide +kernel
theorem dX6_advanceStops_20 : decode cX6_advanceStops 20 = .ok (.iaload, 1) := by decide +kernel
theorem dX6_advanceStops_21 : decode cX6_advanceStops 21 = .ok (.aload_n 0, 1) := by decide +kernel
theorem dX6_advanceStops_22 : decode cX6_advanceStops 22 = .ok (.getfield 21, 3) := by decide +kernel
theorem dX6_advanceStops_25 : decode cX6_advanceStops 25 = .ok (.iload_n 2, 1) := by decide +kernel
theorem dX6_advanceStops_26 : decode cX6_advanceStops 26 = .ok (.iconst 1, 1) := by decide +kernel
theorem dX6_advanceStops_27 : decode cX6_advanceStops 27 = .ok (.iadd, 1) := by decide +kernel
theorem dX6_advanceStops_28 : decode cX6_advanceStops 28 = .ok (.iaload, 1) := by decide +kernel
theorem dX6_advanceStops_29 : decode cX6_advanceStops 29 = .ok (.isub, 1) := by decide +kernel
theorem dX6_advanceStops_30 : decode cX6_advanceStops 30 = .ok (.istore_n 3, 1) := by decide +kernel
theorem dX6_advanceStops_31 : decode cX6_advanceStops 31 = .ok (.aload_n 0, 1) := by decide +kernel
theorem dX6_advanceStops_32 : decode cX6_advanceStops 32 = .ok (.getfield 15, 3) := by decide +kernel
theorem dX6_advanceStops_35 : decode cX6_advanceStops 35 = .ok (.iload_n 2, 1) := by decide +kernel
theorem dX6_advanceStops_36 : decode cX6_advanceStops 36 = .ok (.iaload, 1) := by decide +kernel
theorem dX6_advanceStops_37 : decode cX6_advanceStops 37 = .ok (.iload_n 3, 1) := by decide +kernel
theorem dX6_advanceStops_38 : decode cX6_advanceStops 38 = .ok (.if_icmp .le 12, 3) := by decide +kernel
theorem dX6_advanceStops_41 : decode cX6_advanceStops 41 = .ok (.aload_n 0, 1) := by decide +kernel
theorem dX6_advanceStops_42 : decode cX6_advanceStops 42 = .ok (.getfield 15, 3) := by decide +kernel
theorem dX6_advanceStops_45 : decode cX6_advanceStops 45 = .ok (.iload_n 2, 1) := by decide +kernel
theorem dX6_advanceStops_46 : decode cX6_advanceStops 46 = .ok (.iload_n 3, 1) := by decide +kernel
theorem dX6_advanceStops_47 : decode cX6_advanceStops 47 = .ok (.iastore, 1) := by decide +kernel
theorem dX6_advanceStops_48 : decode cX6_advanceStops 48 = .ok (.iconst 1, 1) := by decide +kernel
theorem dX6_advanceStops_49 : decode cX6_advanceStops 49 = .ok (.istore_n 1, 1) := by decide +kernel
theorem dX6_advanceStops_50 : decode cX6_advanceStops 50 = .ok (.iinc 2 (-1), 3) := by decide +kernel
theorem dX6_advanceStops_53 : decode cX6_advanceStops 53 = .ok (.goto (-44), 3) := by decide +kernel
theorem dX6_advanceStops_56 : decode cX6_advanceStops 56 = .ok (.iload_n 1, 1) := by decide +kernel
theorem dX6_advanceStops_57 : decode cX6_advanceStops 57 = .ok (.ireturn, 1) := by decide +kernel
theorem dX6_advanceDrops_0 : decode cX6_advanceDrops 0 = .ok (.iconst 0, 1) := by decide +kernel
theorem dX6_advanceDrops_1 : decode cX6_advanceDrops 1 = .ok (.istore_n 1, 1) := by decide +kernel
theorem dX6_advanceDrops_2 : decode cX6_advanceDrops 2 = .ok (.iconst 1, 1) := by decide +kernel
theorem dX6_advanceDrops_3 : decode cX6_advanceDrops 3 = .ok (.istore_n 2, 1) := by decide +kernel
theorem dX6_advanceDrops_4 : decode cX6_advanceDrops 4 = .ok (.iload_n 2, 1) := by decide +kernel
theorem dX6_advanceDrops_5 : decode cX6_advanceDrops 5 = .ok (.aload_n 0, 1) := by decide +kernel
theorem dX6_advanceDrops_6 : decode cX6_advanceDrops 6 = .ok (.getfield 43, 3) := by decide +kernel
theorem dX6_advanceDrops_9 : decode cX6_advanceDrops 9 = .ok (.if_icmp .ge 47, 3) := by decide +kernel
theorem dX6_advanceDrops_12 : decode cX6_advanceDrops 12 = .ok (.aload_n 0, 1) := by decide +kernel
theorem dX6_advanceDrops_13 : decode cX6_advanceDrops 13 = .ok (.getfield 15, 3) := by decide +kernel
theorem dX6_advanceDrops_16 : decode cX6_advanceDrops 16 = .ok (.aload_n 0, 1) := by decide +kernel
theorem dX6_advanceDrops_17 : decode cX6_advanceDrops 17 = .ok (.getfield 37, 3) := by decide +kernel
theorem dX6_advanceDrops_20 : decode cX6_advanceDrops 20 = .ok (.iload_n 2, 1) := by decide +kernel
theorem dX6_advanceDrops_21 : decode cX6_advanceDrops 21 = .ok (.iaload, 1) := by decide +kernel
theorem dX6_advanceDrops_22 : decode cX6_advanceDrops 22 = .ok (.iaload, 1) := by decide +kernel
theorem dX6_advanceDrops_23 : decode cX6_advanceDrops 23 = .ok (.aload_n 0, 1) := by decide +kernel
theorem dX6_advanceDrops_24 : decode cX6_advanceDrops 24 = .ok (.getfield 40, 3) := by decide +kernel
theorem dX6_advanceDrops_27 : decode cX6_advanceDrops 27 = .ok (.iload_n 2, 1) := by decide +kernel
theorem dX6_advanceDrops_28 : decode cX6_advanceDrops 28 = .ok (.iaload, 1) := by decide +kernel
theorem dX6_advanceDrops_29 : decode cX6_advanceDrops 29 = .ok (.iadd, 1) := by decide +kernel
theorem dX6_advanceDrops_30 : decode cX6_advanceDrops 30 = .ok (.istore_n 3, 1) := by decide +kernel
theorem dX6_advanceDrops_31 : decode cX6_advanceDrops 31 = .ok (.aload_n 0, 1) := by decide +kernel
theorem dX6_advanceDrops_32 : decode cX6_advanceDrops 32 = .ok (.getfield 15, 3) := by decide +kernel
theorem dX6_advanceDrops_35 : decode cX6_advanceDrops 35 = .ok (.iload_n 2, 1) := by decide +kernel
theorem dX6_advanceDrops_36 : decode cX6_advanceDrops 36 = .ok (.iaload, 1) := by decide +kernel
theorem dX6_advanceDrops_37 : decode cX6_advanceDrops 37 = .ok (.iload_n 3, 1) := by decide +kernel
theorem dX6_advanceDrops_38 : decode cX6_advanceDrops 38 = .ok (.if_icmp .le 12, 3) := by decide +kernel
theorem dX6_advanceDrops_41 : decode cX6_advanceDrops 41 = .ok (.aload_n 0, 1) := by decide +kernel
theorem dX6_advanceDrops_42 : decode cX6_advanceDrops 42 = .ok (.getfield 15, 3) := by decide +kernel
theorem dX6_advanceDrops_45 : decode cX6_advanceDrops 45 = .ok (.iload_n 2, 1) := by decide +kernel
theorem dX6_advanceDrops_46 : decode cX6_advanceDrops 46 = .ok (.iload_n 3, 1) := by decide +kernel
theorem dX6_advanceDrops_47 : decode cX6_advanceDrops 47 = .ok (.iastore, 1) := by decide +kernel
theorem dX6_advanceDrops_48 : decode cX6_advanceDrops 48 = .ok (.iconst 1, 1) := by decide +kernel
theorem dX6_advanceDrops_49 : decode cX6_advanceDrops 49 = .ok (.istore_n 1, 1) := by decide +kernel
theorem dX6_advanceDrops_50 : decode cX6_advanceDrops 50 = .ok (.iinc 2 1, 3) := by decide +kernel
theorem dX6_advanceDrops_53 : decode cX6_advanceDrops 53 = .ok (.goto (-49), 3) := by decide +kernel
theorem dX6_advanceDrops_56 : decode cX6_advanceDrops 56 = .ok (.iload_n 1, 1) := by decide +kernel
theorem dX6_advanceDrops_57 : decode cX6_advanceDrops 57 = .ok (.ireturn, 1) := by decide +kernel
theorem dX7_init_0 : decode cX7_init 0 = .ok (.aload_n 0, 1) := by decide +kernel
theorem dX7_init_1 : decode cX7_init 1 = .ok (.invokespecial 3, 3) := by decide +kernel
theorem dX7_init_4 : decode cX7_init 4 = .ok (.new 9, 3) := by decide +kernel
theorem dX7_init_7 : decode cX7_init 7 = .ok (.dup, 1) := by decide +kernel
theorem dX7_init_8 : decode cX7_init 8 = .ok (.invokespecial 11, 3) := by decide +kernel
theorem dX7_init_11 : decode cX7_init 11 = .ok (.astore_n 1, 1) := by decide +kernel
theorem dX7_init_12 : decode cX7_init 12 = .ok (.new 12, 3) := by decide +kernel
theorem dX7_init_15 : decode cX7_init 15 = .ok (.dup, 1) := by decide +kernel
theorem dX7_init_16 : decode cX7_init 16 = .ok (.aload_n 1, 1) := by decide +kernel
theorem dX7_init_17 : decode cX7_init 17 = .ok (.invokespecial 14, 3) := by decide +kernel
theorem dX7_init_20 : decode cX7_init 20 = .ok (.astore_n 2, 1) := by decide +kernel
theorem dX7_init_21 : decode cX7_init 21 = .ok (.new 17, 3) := by decide +kernel
theorem dX7_init_24 : decode cX7_init 24 = .ok (.dup, 1) := by decide +kernel
theorem dX7_init_25 : decode cX7_init 25 = .ok (.aload_n 1, 1) := by decide +kernel
theorem dX7_init_26 : decode cX7_init 26 = .ok (.aload_n 2, 1) := by decide +kernel
theorem dX7_init_27 : decode cX7_init 27 = .ok (.invokespecial 19, 3) := by decide +kernel
theorem dX7_init_30 : decode cX7_init 30 = .ok (.astore_n 3, 1) := by decide +kernel
theorem dX7_init_31 : decode cX7_init 31 = .ok (.aload_n 0, 1) := by decide +kernel
theorem dX7_init_32 : decode cX7_init 32 = .ok (.aload_n 1, 1) := by decide +kernel
theorem dX7_init_33 : decode cX7_init 33 = .ok (.putfield 22, 3) := by decide +kernel
theorem dX7_init_36 : decode cX7_init 36 = .ok (.aload_n 0, 1) := by decide +kernel
theorem dX7_init_37 : decode cX7_init 37 = .ok (.aload_n 2, 1) := by decide +kernel
theorem dX7_init_38 : decode cX7_init 38 = .ok (.putfield 26, 3) := by decide +kernel
theorem dX7_init_41 : decode cX7_init 41 = .ok (.aload_n 0, 1) := by decide +kernel
theorem dX7_init_42 : decode cX7_init 42 = .ok (.aload_n 3, 1) := by decide +kernel
theorem dX7_init_43 : decode cX7_init 43 = .ok (.putfield 30, 3) := by decide +kernel
theorem dX7_init_46 : decode cX7_init 46 = .ok (.aload_n 0, 1) := by decide +kernel
theorem dX7_init_47 : decode cX7_init 47 = .ok (.new 34, 3) := by decide +kernel
theorem dX7_init_50 : decode cX7_init 50 = .ok (.dup, 1) := by decide +kernel
theorem dX7_init_51 : decode cX7_init 51 = .ok (.aload_n 1, 1) := by decide +kernel
theorem dX7_init_52 : decode cX7_init 52 = .ok (.aload_n 3, 1) := by decide +kernel
theorem dX7_init_53 : decode cX7_init 53 = .ok (.invokespecial 36, 3) := by decide +kernel
theorem dX7_init_56 : decode cX7_init 56 = .ok (.putfield 39, 3) := by decide +kernel
theorem dX7_init_59 : decode cX7_init 59 = .ok (.aload_n 0, 1) := by decide +kernel
theorem dX7_init_60 : decode cX7_init 60 = .ok (.new 43, 3) := by decide +kernel
theorem dX7_init_63 : decode cX7_init 63 = .ok (.dup, 1) := by decide +kernel
theorem dX7_init_64 : decode cX7_init 64 = .ok (.invokespecial 45, 3) := by decide +kernel
theorem dX7_init_67 : decode cX7_init 67 = .ok (.putfield 46, 3) := by decide +kernel
theorem dX7_init_70 : decode cX7_init 70 = .ok (.aload_n 0, 1) := by decide +kernel
theorem dX7_init_71 : decode cX7_init 71 = .ok (.new 50, 3) := by decide +kernel
theorem dX7_init_74 : decode cX7_init 74 = .ok (.dup, 1) := by decide +kernel
theorem dX7_init_75 : decode cX7_init 75 = .ok (.invokespecial 52, 3) := by decide +kernel
theorem dX7_init_78 : decode cX7_init 78 = .ok (.putfield 53, 3) := by decide +kernel
theorem dX7_init_81 : decode cX7_init 81 = .ok (.return_, 1) := by decide +kernel
theorem dX7_addVehicle_0 : decode cX7_addVehicle 0 = .ok (.iload_n 1, 1) := by decide +kernel
theorem dX7_addVehicle_1 : decode cX7_addVehicle 1 = .ok (.iload_n 2, 1) := by decide +kernel
theorem dX7_addVehicle_2 : decode cX7_addVehicle 2 = .ok (.invokestatic 57, 3) := by decide +kernel
theorem dX7_addVehicle_5 : decode cX7_addVehicle 5 = .ok (.ifCond .eq 20, 3) := by decide +kernel
theorem dX7_addVehicle_8 : decode cX7_addVehicle 8 = .ok (.iload_n 3, 1) := by decide +kernel
theorem dX7_addVehicle_9 : decode cX7_addVehicle 9 = .ok (.invokestatic 61, 3) := by decide +kernel
theorem dX7_addVehicle_12 : decode cX7_addVehicle 12 = .ok (.ifCond .eq 13, 3) := by decide +kernel
theorem dX7_addVehicle_15 : decode cX7_addVehicle 15 = .ok (.iload 4, 2) := by decide +kernel
theorem dX7_addVehicle_17 : decode cX7_addVehicle 17 = .ok (.iload 5, 2) := by decide +kernel
theorem dX7_addVehicle_19 : decode cX7_addVehicle 19 = .ok (.invokestatic 65, 3) := by decide +kernel
theorem dX7_addVehicle_22 : decode cX7_addVehicle 22 = .ok (.ifCond .ne 7, 3) := by decide +kernel
theorem dX7_addVehicle_25 : decode cX7_addVehicle 25 = .ok (.sipush (-1002), 3) := by decide +kernel
theorem dX7_addVehicle_28 : decode cX7_addVehicle 28 = .ok (.ireturn, 1) := by decide +kernel
theorem dX7_addVehicle_29 : decode cX7_addVehicle 29 = .ok (.aload_n 0, 1) := by decide +kernel
theorem dX7_addVehicle_30 : decode cX7_addVehicle 30 = .ok (.getfield 22, 3) := by decide +kernel
theorem dX7_addVehicle_33 : decode cX7_addVehicle 33 = .ok (.getfield 68, 3) := by decide +kernel
theorem dX7_addVehicle_36 : decode cX7_addVehicle 36 = .ok (.iconst 4, 1) := by decide +kernel
theorem dX7_addVehicle_37 : decode cX7_addVehicle 37 = .ok (.if_icmp .lt 7, 3) := by decide +kernel
theorem dX7_addVehicle_40 : decode cX7_addVehicle 40 = .ok (.sipush (-1006), 3) := by decide +kernel
theorem dX7_addVehicle_43 : decode cX7_addVehicle 43 = .ok (.ireturn, 1) := by decide +kernel
theorem dX7_addVehicle_44 : decode cX7_addVehicle 44 = .ok (.aload_n 0, 1) := by decide +kernel
theorem dX7_addVehicle_45 : decode cX7_addVehicle 45 = .ok (.getfield 22, 3) := by decide +kernel
theorem dX7_addVehicle_48 : decode cX7_addVehicle 48 = .ok (.getfield 68, 3) := by decide +kernel
theorem dX7_addVehicle_51 : decode cX7_addVehicle 51 = .ok (.istore 6, 2) := by decide +kernel
theorem dX7_addVehicle_53 : decode cX7_addVehicle 53 = .ok (.aload_n 0, 1) := by decide +kernel
theorem dX7_addVehicle_54 : decode cX7_addVehicle 54 = .ok (.getfield 22, 3) := by decide +kernel
theorem dX7_addVehicle_57 : decode cX7_addVehicle 57 = .ok (.getfield 72, 3) := by decide +kernel
theorem dX7_addVehicle_60 : decode cX7_addVehicle 60 = .ok (.iload 6, 2) := by decide +kernel
theorem dX7_addVehicle_62 : decode cX7_addVehicle 62 = .ok (.iload_n 3, 1) := by decide +kernel
theorem dX7_addVehicle_63 : decode cX7_addVehicle 63 = .ok (.iastore, 1) := by decide +kernel
theorem dX7_addVehicle_64 : decode cX7_addVehicle 64 = .ok (.aload_n 0, 1) := by decide +kernel
theorem dX7_addVehicle_65 : decode cX7_addVehicle 65 = .ok (.getfield 22, 3) := by decide +kernel
theorem dX7_addVehicle_68 : decode cX7_addVehicle 68 = .ok (.getfield 76, 3) := by decide +kernel
theorem dX7_addVehicle_71 : decode cX7_addVehicle 71 = .ok (.iload 6, 2) := by decide +kernel
theorem dX7_addVehicle_73 : decode cX7_addVehicle 73 = .ok (.iload 4, 2) := by decide +kernel
theorem dX7_addVehicle_75 : decode cX7_addVehicle 75 = .ok (.iastore, 1) := by decide +kernel
theorem dX7_addVehicle_76 : decode cX7_addVehicle 76 = .ok (.aload_n 0, 1) := by decide +kernel
theorem dX7_addVehicle_77 : decode cX7_addVehicle 77 = .ok (.getfield 22, 3) := by decide +kernel
theorem dX7_addVehicle_80 : decode cX7_addVehicle 80 = .ok (.getfield 79, 3) := by decide +kernel
theorem dX7_addVehicle_83 : decode cX7_addVehicle 83 = .ok (.iload 6, 2) := by decide +kernel
theorem dX7_addVehicle_85 : decode cX7_addVehicle 85 = .ok (.iload 5, 2) := by decide +kernel
theorem dX7_addVehicle_87 : decode cX7_addVehicle 87 = .ok (.iastore, 1) := by decide +kernel
theorem dX7_addVehicle_88 : decode cX7_addVehicle 88 = .ok (.aload_n 0, 1) := by decide +kernel
theorem dX7_addVehicle_89 : decode cX7_addVehicle 89 = .ok (.getfield 22, 3) := by decide +kernel
theorem dX7_addVehicle_92 : decode cX7_addVehicle 92 = .ok (.bipush 24, 2) := by decide +kernel
theorem dX7_addVehicle_94 : decode cX7_addVehicle 94 = .ok (.iload 6, 2) := by decide +kernel
theorem dX7_addVehicle_96 : decode cX7_addVehicle 96 = .ok (.iadd, 1) := by decide +kernel
theorem dX7_addVehicle_97 : decode cX7_addVehicle 97 = .ok (.iload_n 1, 1) := by decide +kernel
theorem dX7_addVehicle_98 : decode cX7_addVehicle 98 = .ok (.iload_n 2, 1) := by decide +kernel
theorem dX7_addVehicle_99 : decode cX7_addVehicle 99 = .ok (.invokevirtual 82, 3) := by decide +kernel
theorem dX7_addVehicle_102 : decode cX7_addVehicle 102 = .ok (.aload_n 0, 1) := by decide +kernel
theorem dX7_addVehicle_103 : decode cX7_addVehicle 103 = .ok (.getfield 22, 3) := by decide +kernel
theorem dX7_addVehicle_106 : decode cX7_addVehicle 106 = .ok (.iload 6, 2) := by decide +kernel
theorem dX7_addVehicle_108 : decode cX7_addVehicle 108 = .ok (.iconst 1, 1) := by decide +kernel
theorem dX7_addVehicle_109 : decode cX7_addVehicle 109 = .ok (.iadd, 1) := by decide +kernel
theorem dX7_addVehicle_110 : decode cX7_addVehicle 110 = .ok (.putfield 68, 3) := by decide +kernel
theorem dX7_addVehicle_113 : decode cX7_addVehicle 113 = .ok (.aload_n 0, 1) := by decide +kernel
theorem dX7_addVehicle_114 : decode cX7_addVehicle 114 = .ok (.getfield 53, 3) := by decide +kernel
theorem dX7_addVehicle_117 : decode cX7_addVehicle 117 = .ok (.invokevirtual 86, 3) := by decide +kernel
theorem dX7_addVehicle_120 : decode cX7_addVehicle 120 = .ok (.iload 6, 2) := by decide +kernel
theorem dX7_addVehicle_122 : decode cX7_addVehicle 122 = .ok (.ireturn, 1) := by decide +kernel
theorem dX7_addRequest_0 : decode cX7_addRequest 0 = .ok (.iload_n 1, 1) := by decide +kernel
theorem dX7_addRequest_1 : decode cX7_addRequest 1 = .ok (.iload_n 2, 1) := by decide +kernel
theorem dX7_addRequest_2 : decode cX7_addRequest 2 = .ok (.invokestatic 57, 3) := by decide +kernel
theorem dX7_addRequest_5 : decode cX7_addRequest 5 = .ok (.ifCond .eq 28, 3) := by decide +kernel
theorem dX7_addRequest_8 : decode cX7_addRequest 8 = .ok (.iload_n 3, 1) := by decide +kernel
theorem dX7_addRequest_9 : decode cX7_addRequest 9 = .ok (.iload 4, 2) := by decide +kernel
theorem dX7_addRequest_11 : decode cX7_addRequest 11 = .ok (.invokestatic 57, 3) := by decide +kernel
theorem dX7_addRequest_14 : decode cX7_addRequest 14 = .ok (.ifCond .eq 19, 3) := by decide +kernel
theorem dX7_addRequest_17 : decode cX7_addRequest 17 = .ok (.iload 5, 2) := by decide +kernel
theorem dX7_addRequest_19 : decode cX7_addRequest 19 = .ok (.invokestatic 61, 3) := by decide +kernel
theorem dX7_addRequest_22 : decode cX7_addRequest 22 = .ok (.ifCond .eq 11, 3) := by decide +kernel
theorem dX7_addRequest_25 : decode cX7_addRequest 25 = .ok (.iload 6, 2) := by decide +kernel
theorem dX7_addRequest_27 : decode cX7_addRequest 27 = .ok (.invokestatic 89, 3) := by decide +kernel
theorem dX7_addRequest_30 : decode cX7_addRequest 30 = .ok (.ifCond .ne 7, 3) := by decide +kernel
theorem dX7_addRequest_33 : decode cX7_addRequest 33 = .ok (.sipush (-1002), 3) := by decide +kernel
theorem dX7_addRequest_36 : decode cX7_addRequest 36 = .ok (.ireturn, 1) := by decide +kernel
theorem dX7_addRequest_37 : decode cX7_addRequest 37 = .ok (.aload_n 0, 1) := by decide +kernel
theorem dX7_addRequest_38 : decode cX7_addRequest 38 = .ok (.getfield 22, 3) := by decide +kernel
theorem dX7_addRequest_41 : decode cX7_addRequest 41 = .ok (.getfield 92, 3) := by decide +kernel
theorem dX7_addRequest_44 : decode cX7_addRequest 44 = .ok (.bipush 12, 2) := by decide +kernel
theorem dX7_addRequest_46 : decode cX7_addRequest 46 = .ok (.if_icmp .lt 7, 3) := by decide +kernel
theorem dX7_addRequest_49 : decode cX7_addRequest 49 = .ok (.sipush (-1006), 3) := by decide +kernel
theorem dX7_addRequest_52 : decode cX7_addRequest 52 = .ok (.ireturn, 1) := by decide +kernel
theorem dX7_addRequest_53 : decode cX7_addRequest 53 = .ok (.aload_n 0, 1) := by decide +kernel
theorem dX7_addRequest_54 : decode cX7_addRequest 54 = .ok (.getfield 22, 3) := by decide +kernel
theorem dX7_addRequest_57 : decode cX7_addRequest 57 = .ok (.getfield 92, 3) := by decide +kernel
theorem dX7_addRequest_60 : decode cX7_addRequest 60 = .ok (.istore 7, 2) := by decide +kernel
theorem dX7_addRequest_62 : decode cX7_addRequest 62 = .ok (.aload_n 0, 1) := by decide +kernel
theorem dX7_addRequest_63 : decode cX7_addRequest 63 = .ok (.getfield 22, 3) := by decide +kernel
theorem dX7_addRequest_66 : decode cX7_addRequest 66 = .ok (.iload 7, 2) := by decide +kernel
theorem dX7_addRequest_68 : decode cX7_addRequest 68 = .ok (.iload 5, 2) := by decide +kernel
theorem dX7_addRequest_70 : decode cX7_addRequest 70 = .ok (.invokevirtual 95, 3) := by decide +kernel
theorem dX7_addRequest_73 : decode cX7_addRequest 73 = .ok (.aload_n 0, 1) := by decide +kernel
theorem dX7_addRequest_74 : decode cX7_addRequest 74 = .ok (.getfield 22, 3) := by decide +kernel
theorem dX7_addRequest_77 : decode cX7_addRequest 77 = .ok (.getfield 99, 3) := by decide +kernel
theorem dX7_addRequest_80 : decode cX7_addRequest 80 = .ok (.iload 7, 2) := by decide +kernel
theorem dX7_addRequest_82 : decode cX7_addRequest 82 = .ok (.iload 6, 2) := by decide +kernel
theorem dX7_addRequest_84 : decode cX7_addRequest 84 = .ok (.iastore, 1) := by decide +kernel
theorem dX7_addRequest_85 : decode cX7_addRequest 85 = .ok (.aload_n 0, 1) := by decide +kernel
theorem dX7_addRequest_86 : decode cX7_addRequest 86 = .ok (.getfield 22, 3) := by decide +kernel
theorem dX7_addRequest_89 : decode cX7_addRequest 89 = .ok (.iconst 2, 1) := by decide +kernel
theorem dX7_addRequest_90 : decode cX7_addRequest 90 = .ok (.iload 7, 2) := by decide +kernel
theorem dX7_addRequest_92 : decode cX7_addRequest 92 = .ok (.imul, 1) := by decide +kernel
theorem dX7_addRequest_93 : decode cX7_addRequest 93 = .ok (.iload_n 1, 1) := by decide +kernel
theorem dX7_addRequest_94 : decode cX7_addRequest 94 = .ok (.iload_n 2, 1) := by decide +kernel
theorem dX7_addRequest_95 : decode cX7_addRequest 95 = .ok (.invokevirtual 82, 3) := by decide +kernel
theorem dX7_addRequest_98 : decode cX7_addRequest 98 = .ok (.aload_n 0, 1) := by decide +kernel
theorem dX7_addRequest_99 : decode cX7_addRequest 99 = .ok (.getfield 22, 3) := by decide +kernel
theorem dX7_addRequest_102 : decode cX7_addRequest 102 = .ok (.iconst 2, 1) := by decide +kernel
theorem dX7_addRequest_103 : decode cX7_addRequest 103 = .ok (.iload 7, 2) := by decide +kernel
theorem dX7_addRequest_105 : decode cX7_addRequest 105 = .ok (.imul, 1) := by decide +kernel
theorem dX7_addRequest_106 : decode cX7_addRequest 106 = .ok (.iconst 1, 1) := by decide +kernel
theorem dX7_addRequest_107 : decode cX7_addRequest 107 = .ok (.iadd, 1) := by decide +kernel
theorem dX7_addRequest_108 : decode cX7_addRequest 108 = .ok (.iload_n 3, 1) := by decide +kernel
theorem dX7_addRequest_109 : decode cX7_addRequest 109 = .ok (.iload 4, 2) := by decide +kernel
theorem dX7_addRequest_111 : decode cX7_addRequest 111 = .ok (.invokevirtual 82, 3) := by decide +kernel
theorem dX7_addRequest_114 : decode cX7_addRequest 114 = .ok (.aload_n 0, 1) := by decide +kernel
theorem dX7_addRequest_115 : decode cX7_addRequest 115 = .ok (.getfield 22, 3) := by decide +kernel
theorem dX7_addRequest_118 : decode cX7_addRequest 118 = .ok (.iconst 2, 1) := by decide +kernel
theorem dX7_addRequest_119 : decode cX7_addRequest 119 = .ok (.iload 7, 2) := by decide +kernel
theorem dX7_addRequest_121 : decode cX7_addRequest 121 = .ok (.imul, 1) := by decide +kernel
theorem dX7_addRequest_122 : decode cX7_addRequest 122 = .ok (.iconst 0, 1) := by decide +kernel
theorem dX7_addRequest_123 : decode cX7_addRequest 123 = .ok (.sipush 5000, 3) := by decide +kernel
theorem dX7_addRequest_126 : decode cX7_addRequest 126 = .ok (.invokevirtual 102, 3) := by decide +kernel
theorem dX7_addRequest_129 : decode cX7_addRequest 129 = .ok (.aload_n 0, 1) := by decide +kernel
theorem dX7_addRequest_130 : decode cX7_addRequest 130 = .ok (.getfield 22, 3) := by decide +kernel
theorem dX7_addRequest_133 : decode cX7_addRequest 133 = .ok (.iconst 2, 1) := by decide +kernel
theorem dX7_addRequest_134 : decode cX7_addRequest 134 = .ok (.iload 7, 2) := by decide +kernel
theorem dX7_addRequest_136 : decode cX7_addRequest 136 = .ok (.imul, 1) := by decide +kernel
theorem dX7_addRequest_137 : decode cX7_addRequest 137 = .ok (.iconst 1, 1) := by decide +kernel
theorem dX7_addRequest_138 : decode cX7_addRequest 138 = .ok (.iadd, 1) := by decide +kernel
theorem dX7_addRequest_139 : decode cX7_addRequest 139 = .ok (.iconst 0, 1) := by decide +kernel
theorem dX7_addRequest_140 : decode cX7_addRequest 140 = .ok (.sipush 5000, 3) := by decide +kernel
theorem dX7_addRequest_143 : decode cX7_addRequest 143 = .ok (.invokevirtual 102, 3) := by decide +kernel
theorem dX7_addRequest_146 : decode cX7_addRequest 146 = .ok (.aload_n 0, 1) := by decide +kernel
theorem dX7_addRequest_147 : decode cX7_addRequest 147 = .ok (.getfield 22, 3) := by decide +kernel
theorem dX7_addRequest_150 : decode cX7_addRequest 150 = .ok (.iload 7, 2) := by decide +kernel
theorem dX7_addRequest_152 : decode cX7_addRequest 152 = .ok (.iconst 1, 1) := by decide +kernel
theorem dX7_addRequest_153 : decode cX7_addRequest 153 = .ok (.iadd, 1) := by decide +kernel
theorem dX7_addRequest_154 : decode cX7_addRequest 154 = .ok (.putfield 92, 3) := by decide +kernel
theorem dX7_addRequest_157 : decode cX7_addRequest 157 = .ok (.aload_n 0, 1) := by decide +kernel
theorem dX7_addRequest_158 : decode cX7_addRequest 158 = .ok (.getfield 53, 3) := by decide +kernel
theorem dX7_addRequest_161 : decode cX7_addRequest 161 = .ok (.invokevirtual 86, 3) := by decide +kernel
theorem dX7_addRequest_164 : decode cX7_addRequest 164 = .ok (.iload 7, 2) := by decide +kernel
theorem dX7_addRequest_166 : decode cX7_addRequest 166 = .ok (.ireturn, 1) := by decide +kernel
theorem dX7_setWindow_0 : decode cX7_setWindow 0 = .ok (.aload_n 0, 1) := by decide +kernel
theorem dX7_setWindow_1 : decode cX7_setWindow 1 = .ok (.iload_n 1, 1) := by decide +kernel
theorem dX7_setWindow_2 : decode cX7_setWindow 2 = .ok (.invokevirtual 105, 3) := by decide +kernel
theorem dX7_setWindow_5 : decode cX7_setWindow 5 = .ok (.ifCond .ne 7, 3) := by decide +kernel
theorem dX7_setWindow_8 : decode cX7_setWindow 8 = .ok (.sipush (-1001), 3) := by decide +kernel
theorem dX7_setWindow_11 : decode cX7_setWindow 11 = .ok (.ireturn, 1) := by decide +kernel
theorem dX7_setWindow_12 : decode cX7_setWindow 12 = .ok (.iload_n 3, 1) := by decide +kernel
theorem dX7_setWindow_13 : decode cX7_setWindow 13 = .ok (.iload 4, 2) := by decide +kernel
theorem dX7_setWindow_15 : decode cX7_setWindow 15 = .ok (.invokestatic 65, 3) := by decide +kernel
theorem dX7_setWindow_18 : decode cX7_setWindow 18 = .ok (.ifCond .ne 7, 3) := by decide +kernel
theorem dX7_setWindow_21 : decode cX7_setWindow 21 = .ok (.sipush (-1002), 3) := by decide +kernel
theorem dX7_setWindow_24 : decode cX7_setWindow 24 = .ok (.ireturn, 1) := by decide +kernel
theorem dX7_setWindow_25 : decode cX7_setWindow 25 = .ok (.iload_n 2, 1) := by decide +kernel
theorem dX7_setWindow_26 : decode cX7_setWindow 26 = .ok (.ifCond .eq 11, 3) := by decide +kernel
theorem dX7_setWindow_29 : decode cX7_setWindow 29 = .ok (.iconst 2, 1) := by decide +kernel
theorem dX7_setWindow_30 : decode cX7_setWindow 30 = .ok (.iload_n 1, 1) := by decide +kernel
theorem dX7_setWindow_31 : decode cX7_setWindow 31 = .ok (.imul, 1) := by decide +kernel
theorem dX7_setWindow_32 : decode cX7_setWindow 32 = .ok (.iconst 1, 1) := by decide +kernel
theorem dX7_setWindow_33 : decode cX7_setWindow 33 = .ok (.iadd, 1) := by decide +kernel
theorem dX7_setWindow_34 : decode cX7_setWindow 34 = .ok (.goto 6, 3) := by decide +kernel
theorem dX7_setWindow_37 : decode cX7_setWindow 37 = .ok (.iconst 2, 1) := by decide +kernel
theorem dX7_setWindow_38 : decode cX7_setWindow 38 = .ok (.iload_n 1, 1) := by decide +kernel
theorem dX7_setWindow_39 : decode cX7_setWindow 39 = .ok (.imul, 1) := by decide +kernel
theorem dX7_setWindow_40 : decode cX7_setWindow 40 = .ok (.istore 5, 2) := by decide +kernel
theorem dX7_setWindow_42 : decode cX7_setWindow 42 = .ok (.aload_n 0, 1) := by decide +kernel
theorem dX7_setWindow_43 : decode cX7_setWindow 43 = .ok (.getfield 22, 3) := by decide +kernel
theorem dX7_setWindow_46 : decode cX7_setWindow 46 = .ok (.getfield 108, 3) := by decide +kernel
theorem dX7_setWindow_49 : decode cX7_setWindow 49 = .ok (.iload 5, 2) := by decide +kernel
theorem dX7_setWindow_51 : decode cX7_setWindow 51 = .ok (.iaload, 1) := by decide +kernel
theorem dX7_setWindow_52 : decode cX7_setWindow 52 = .ok (.istore 6, 2) := by decide +kernel
theorem dX7_setWindow_54 : decode cX7_setWindow 54 = .ok (.aload_n 0, 1) := by decide +kernel
theorem dX7_setWindow_55 : decode cX7_setWindow 55 = .ok (.getfield 22, 3) := by decide +kernel
theorem dX7_setWindow_58 : decode cX7_setWindow 58 = .ok (.getfield 111, 3) := by decide +kernel
theorem dX7_setWindow_61 : decode cX7_setWindow 61 = .ok (.iload 5, 2) := by decide +kernel
theorem dX7_setWindow_63 : decode cX7_setWindow 63 = .ok (.iaload, 1) := by decide +kernel
theorem dX7_setWindow_64 : decode cX7_setWindow 64 = .ok (.istore 7, 2) := by decide +kernel
theorem dX7_setWindow_66 : decode cX7_setWindow 66 = .ok (.iload_n 3, 1) := by decide +kernel
theorem dX7_setWindow_67 : decode cX7_setWindow 67 = .ok (.iload 6, 2) := by decide +kernel
theorem dX7_setWindow_69 : decode cX7_setWindow 69 = .ok (.if_icmp .ne 12, 3) := by decide +kernel
theorem dX7_setWindow_72 : decode cX7_setWindow 72 = .ok (.iload 4, 2) := by decide +kernel
theorem dX7_setWindow_74 : decode cX7_setWindow 74 = .ok (.iload 7, 2) := by decide +kernel
theorem dX7_setWindow_76 : decode cX7_setWindow 76 = .ok (.if_icmp .ne 5, 3) := by decide +kernel
theorem dX7_setWindow_79 : decode cX7_setWindow 79 = .ok (.iconst 0, 1) := by decide +kernel
theorem dX7_setWindow_80 : decode cX7_setWindow 80 = .ok (.ireturn, 1) := by decide +kernel
theorem dX7_setWindow_81 : decode cX7_setWindow 81 = .ok (.aload_n 0, 1) := by decide +kernel
theorem dX7_setWindow_82 : decode cX7_setWindow 82 = .ok (.getfield 22, 3) := by decide +kernel
theorem dX7_setWindow_85 : decode cX7_setWindow 85 = .ok (.iload 5, 2) := by decide +kernel
theorem dX7_setWindow_87 : decode cX7_setWindow 87 = .ok (.iload_n 3, 1) := by decide +kernel
theorem dX7_setWindow_88 : decode cX7_setWindow 88 = .ok (.iload 4, 2) := by decide +kernel
theorem dX7_setWindow_90 : decode cX7_setWindow 90 = .ok (.invokevirtual 102, 3) := by decide +kernel
theorem dX7_setWindow_93 : decode cX7_setWindow 93 = .ok (.aload_n 0, 1) := by decide +kernel
theorem dX7_setWindow_94 : decode cX7_setWindow 94 = .ok (.iload_n 1, 1) := by decide +kernel
theorem dX7_setWindow_95 : decode cX7_setWindow 95 = .ok (.invokevirtual 114, 3) := by decide +kernel
theorem dX7_setWindow_98 : decode cX7_setWindow 98 = .ok (.ifCond .ne 20, 3) := by decide +kernel
theorem dX7_setWindow_101 : decode cX7_setWindow 101 = .ok (.aload_n 0, 1) := by decide +kernel
theorem dX7_setWindow_102 : decode cX7_setWindow 102 = .ok (.getfield 22, 3) := by decide +kernel
theorem dX7_setWindow_105 : decode cX7_setWindow 105 = .ok (.iload 5, 2) := by decide +kernel
theorem dX7_setWindow_107 : decode cX7_setWindow 107 = .ok (.iload 6, 2) := by decide +kernel
theorem dX7_setWindow_109 : decode cX7_setWindow 109 = .ok (.iload 7, 2) := by decide +kernel
theorem dX7_setWindow_111 : decode cX7_setWindow 111 = .ok (.invokevirtual 102, 3) := by decide +kernel
theorem dX7_setWindow_114 : decode cX7_setWindow 114 = .ok (.sipush (-1005), 3) := by decide +kernel
theorem dX7_setWindow_117 : decode cX7_setWindow 117 = .ok (.ireturn, 1) := by decide +kernel
theorem dX7_setWindow_118 : decode cX7_setWindow 118 = .ok (.aload_n 0, 1) := by decide +kernel
theorem dX7_setWindow_119 : decode cX7_setWindow 119 = .ok (.getfield 53, 3) := by decide +kernel
theorem dX7_setWindow_122 : decode cX7_setWindow 122 = .ok (.invokevirtual 86, 3) := by decide +kernel
theorem dX7_setWindow_125 : decode cX7_setWindow 125 = .ok (.iconst 1, 1) := by decide +kernel
theorem dX7_setWindow_126 : decode cX7_setWindow 126 = .ok (.ireturn, 1) := by decide +kernel
theorem dX7_setLimit_0 : decode cX7_setLimit 0 = .ok (.aload_n 0, 1) := by decide +kernel
theorem dX7_setLimit_1 : decode cX7_setLimit 1 = .ok (.iload_n 1, 1) := by decide +kernel
theorem dX7_setLimit_2 : decode cX7_setLimit 2 = .ok (.invokevirtual 105, 3) := by decide +kernel
theorem dX7_setLimit_5 : decode cX7_setLimit 5 = .ok (.ifCond .ne 7, 3) := by decide +kernel
theorem dX7_setLimit_8 : decode cX7_setLimit 8 = .ok (.sipush (-1001), 3) := by decide +kernel
theorem dX7_setLimit_11 : decode cX7_setLimit 11 = .ok (.ireturn, 1) := by decide +kernel
theorem dX7_setLimit_12 : decode cX7_setLimit 12 = .ok (.iload_n 2, 1) := by decide +kernel
theorem dX7_setLimit_13 : decode cX7_setLimit 13 = .ok (.invokestatic 89, 3) := by decide +kernel
theorem dX7_setLimit_16 : decode cX7_setLimit 16 = .ok (.ifCond .ne 7, 3) := by decide +kernel
theorem dX7_setLimit_19 : decode cX7_setLimit 19 = .ok (.sipush (-1002), 3) := by decide +kernel
theorem dX7_setLimit_22 : decode cX7_setLimit 22 = .ok (.ireturn, 1) := by decide +kernel
theorem dX7_setLimit_23 : decode cX7_setLimit 23 = .ok (.aload_n 0, 1) := by decide +kernel
theorem dX7_setLimit_24 : decode cX7_setLimit 24 = .ok (.getfield 22, 3) := by decide +kernel
theorem dX7_setLimit_27 : decode cX7_setLimit 27 = .ok (.getfield 99, 3) := by decide +kernel
theorem dX7_setLimit_30 : decode cX7_setLimit 30 = .ok (.iload_n 1, 1) := by decide +kernel
theorem dX7_setLimit_31 : decode cX7_setLimit 31 = .ok (.iaload, 1) := by decide +kernel
theorem dX7_setLimit_32 : decode cX7_setLimit 32 = .ok (.istore_n 3, 1) := by decide +kernel
theorem dX7_setLimit_33 : decode cX7_setLimit 33 = .ok (.iload_n 2, 1) := by decide +kernel
theorem dX7_setLimit_34 : decode cX7_setLimit 34 = .ok (.iload_n 3, 1) := by decide +kernel
theorem dX7_setLimit_35 : decode cX7_setLimit 35 = .ok (.if_icmp .ne 5, 3) := by decide +kernel
theorem dX7_setLimit_38 : decode cX7_setLimit 38 = .ok (.iload_n 3, 1) := by decide +kernel
theorem dX7_setLimit_39 : decode cX7_setLimit 39 = .ok (.ireturn, 1) := by decide +kernel
theorem dX7_setLimit_40 : decode cX7_setLimit 40 = .ok (.aload_n 0, 1) := by decide +kernel
theorem dX7_setLimit_41 : decode cX7_setLimit 41 = .ok (.getfield 22, 3) := by decide +kernel
theorem dX7_setLimit_44 : decode cX7_setLimit 44 = .ok (.getfield 99, 3) := by decide +kernel
theorem dX7_setLimit_47 : decode cX7_setLimit 47 = .ok (.iload_n 1, 1) := by decide +kernel
theorem dX7_setLimit_48 : decode cX7_setLimit 48 = .ok (.iload_n 2, 1) := by decide +kernel
theorem dX7_setLimit_49 : decode cX7_setLimit 49 = .ok (.iastore, 1) := by decide +kernel
theorem dX7_setLimit_50 : decode cX7_setLimit 50 = .ok (.aload_n 0, 1) := by decide +kernel
theorem dX7_setLimit_51 : decode cX7_setLimit 51 = .ok (.iload_n 1, 1) := by decide +kernel
theorem dX7_setLimit_52 : decode cX7_setLimit 52 = .ok (.invokevirtual 114, 3) := by decide +kernel
theorem dX7_setLimit_55 : decode cX7_setLimit 55 = .ok (.ifCond .ne 17, 3) := by decide +kernel
theorem dX7_setLimit_58 : decode cX7_setLimit 58 = .ok (.aload_n 0, 1) := by decide +kernel
theorem dX7_setLimit_59 : decode cX7_setLimit 59 = .ok (.getfield 22, 3) := by decide +kernel
theorem dX7_setLimit_62 : decode cX7_setLimit 62 = .ok (.getfield 99, 3) := by decide +kernel
theorem dX7_setLimit_65 : decode cX7_setLimit 65 = .ok (.iload_n 1, 1) := by decide +kernel
theorem dX7_setLimit_66 : decode cX7_setLimit 66 = .ok (.iload_n 3, 1) := by decide +kernel
theorem dX7_setLimit_67 : decode cX7_setLimit 67 = .ok (.iastore, 1) := by decide +kernel
theorem dX7_setLimit_68 : decode cX7_setLimit 68 = .ok (.sipush (-1005), 3) := by decide +kernel
theorem dX7_setLimit_71 : decode cX7_setLimit 71 = .ok (.ireturn, 1) := by decide +kernel
theorem dX7_setLimit_72 : decode cX7_setLimit 72 = .ok (.aload_n 0, 1) := by decide +kernel
theorem dX7_setLimit_73 : decode cX7_setLimit 73 = .ok (.getfield 53, 3) := by decide +kernel
theorem dX7_setLimit_76 : decode cX7_setLimit 76 = .ok (.invokevirtual 86, 3) := by decide +kernel
theorem dX7_setLimit_79 : decode cX7_setLimit 79 = .ok (.iload_n 3, 1) := by decide +kernel
theorem dX7_setLimit_80 : decode cX7_setLimit 80 = .ok (.ireturn, 1) := by decide +kernel
theorem dX7_setLoad_0 : decode cX7_setLoad 0 = .ok (.aload_n 0, 1) := by decide +kernel
theorem dX7_setLoad_1 : decode cX7_setLoad 1 = .ok (.iload_n 1, 1) := by decide +kernel
theorem dX7_setLoad_2 : decode cX7_setLoad 2 = .ok (.invokevirtual 105, 3) := by decide +kernel
theorem dX7_setLoad_5 : decode cX7_setLoad 5 = .ok (.ifCond .ne 7, 3) := by decide +kernel
theorem dX7_setLoad_8 : decode cX7_setLoad 8 = .ok (.sipush (-1001), 3) := by decide +kernel
theorem dX7_setLoad_11 : decode cX7_setLoad 11 = .ok (.ireturn, 1) := by decide +kernel
theorem dX7_setLoad_12 : decode cX7_setLoad 12 = .ok (.iload_n 2, 1) := by decide +kernel
theorem dX7_setLoad_13 : decode cX7_setLoad 13 = .ok (.invokestatic 61, 3) := by decide +kernel
theorem dX7_setLoad_16 : decode cX7_setLoad 16 = .ok (.ifCond .ne 7, 3) := by decide +kernel
theorem dX7_setLoad_19 : decode cX7_setLoad 19 = .ok (.sipush (-1002), 3) := by decide +kernel
theorem dX7_setLoad_22 : decode cX7_setLoad 22 = .ok (.ireturn, 1) := by decide +kernel
theorem dX7_setLoad_23 : decode cX7_setLoad 23 = .ok (.aload_n 0, 1) := by decide +kernel
theorem dX7_setLoad_24 : decode cX7_setLoad 24 = .ok (.getfield 22, 3) := by decide +kernel
theorem dX7_setLoad_27 : decode cX7_setLoad 27 = .ok (.getfield 117, 3) := by decide +kernel
theorem dX7_setLoad_30 : decode cX7_setLoad 30 = .ok (.iconst 2, 1) := by decide +kernel
theorem dX7_setLoad_31 : decode cX7_setLoad 31 = .ok (.iload_n 1, 1) := by decide +kernel
theorem dX7_setLoad_32 : decode cX7_setLoad 32 = .ok (.imul, 1) := by decide +kernel
theorem dX7_setLoad_33 : decode cX7_setLoad 33 = .ok (.iaload, 1) := by decide +kernel
theorem dX7_setLoad_34 : decode cX7_setLoad 34 = .ok (.istore_n 3, 1) := by decide +kernel
theorem dX7_setLoad_35 : decode cX7_setLoad 35 = .ok (.iload_n 2, 1) := by decide +kernel
theorem dX7_setLoad_36 : decode cX7_setLoad 36 = .ok (.iload_n 3, 1) := by decide +kernel
theorem dX7_setLoad_37 : decode cX7_setLoad 37 = .ok (.if_icmp .ne 5, 3) := by decide +kernel
theorem dX7_setLoad_40 : decode cX7_setLoad 40 = .ok (.iload_n 3, 1) := by decide +kernel
theorem dX7_setLoad_41 : decode cX7_setLoad 41 = .ok (.ireturn, 1) := by decide +kernel
theorem dX7_setLoad_42 : decode cX7_setLoad 42 = .ok (.aload_n 0, 1) := by decide +kernel
theorem dX7_setLoad_43 : decode cX7_setLoad 43 = .ok (.getfield 22, 3) := by decide +kernel
theorem dX7_setLoad_46 : decode cX7_setLoad 46 = .ok (.iload_n 1, 1) := by decide +kernel
theorem dX7_setLoad_47 : decode cX7_setLoad 47 = .ok (.iload_n 2, 1) := by decide +kernel
theorem dX7_setLoad_48 : decode cX7_setLoad 48 = .ok (.invokevirtual 95, 3) := by decide +kernel
theorem dX7_setLoad_51 : decode cX7_setLoad 51 = .ok (.aload_n 0, 1) := by decide +kernel
theorem dX7_setLoad_52 : decode cX7_setLoad 52 = .ok (.iload_n 1, 1) := by decide +kernel
theorem dX7_setLoad_53 : decode cX7_setLoad 53 = .ok (.invokevirtual 114, 3) := by decide +kernel
theorem dX7_setLoad_56 : decode cX7_setLoad 56 = .ok (.ifCond .ne 16, 3) := by decide +kernel
theorem dX7_setLoad_59 : decode cX7_setLoad 59 = .ok (.aload_n 0, 1) := by decide +kernel
theorem dX7_setLoad_60 : decode cX7_setLoad 60 = .ok (.getfield 22, 3) := by decide +kernel
theorem dX7_setLoad_63 : decode cX7_setLoad 63 = .ok (.iload_n 1, 1) := by decide +kernel
theorem dX7_setLoad_64 : decode cX7_setLoad 64 = .ok (.iload_n 3, 1) := by decide +kernel
theorem dX7_setLoad_65 : decode cX7_setLoad 65 = .ok (.invokevirtual 95, 3) := by decide +kernel
theorem dX7_setLoad_68 : decode cX7_setLoad 68 = .ok (.sipush (-1005), 3) := by decide +kernel
theorem dX7_setLoad_71 : decode cX7_setLoad 71 = .ok (.ireturn, 1) := by decide +kernel
theorem dX7_setLoad_72 : decode cX7_setLoad 72 = .ok (.aload_n 0, 1) := by decide +kernel
theorem dX7_setLoad_73 : decode cX7_setLoad 73 = .ok (.getfield 53, 3) := by decide +kernel
theorem dX7_setLoad_76 : decode cX7_setLoad 76 = .ok (.invokevirtual 86, 3) := by decide +kernel
theorem dX7_setLoad_79 : decode cX7_setLoad 79 = .ok (.iload_n 3, 1) := by decide +kernel
theorem dX7_setLoad_80 : decode cX7_setLoad 80 = .ok (.ireturn, 1) := by decide +kernel
theorem dX7_setService_0 : decode cX7_setService 0 = .ok (.iload_n 1, 1) := by decide +kernel
theorem dX7_setService_1 : decode cX7_setService 1 = .ok (.ifCond .lt 9, 3) := by decide +kernel
theorem dX7_setService_4 : decode cX7_setService 4 = .ok (.iload_n 1, 1) := by decide +kernel
theorem dX7_setService_5 : decode cX7_setService 5 = .ok (.bipush 10, 2) := by decide +kernel
theorem dX7_setService_7 : decode cX7_setService 7 = .ok (.if_icmp .le 7, 3) := by decide +kernel
theorem dX7_setService_10 : decode cX7_setService 10 = .ok (.sipush (-1002), 3) := by decide +kernel
theorem dX7_setService_13 : decode cX7_setService 13 = .ok (.ireturn, 1) := by decide +kernel
theorem dX7_setService_14 : decode cX7_setService 14 = .ok (.aload_n 0, 1) := by decide +kernel
theorem dX7_setService_15 : decode cX7_setService 15 = .ok (.getfield 22, 3) := by decide +kernel
theorem dX7_setService_18 : decode cX7_setService 18 = .ok (.getfield 120, 3) := by decide +kernel
theorem dX7_setService_21 : decode cX7_setService 21 = .ok (.istore_n 2, 1) := by decide +kernel
theorem dX7_setService_22 : decode cX7_setService 22 = .ok (.iload_n 1, 1) := by decide +kernel
theorem dX7_setService_23 : decode cX7_setService 23 = .ok (.iload_n 2, 1) := by decide +kernel
theorem dX7_setService_24 : decode cX7_setService 24 = .ok (.if_icmp .ne 5, 3) := by decide +kernel
theorem dX7_setService_27 : decode cX7_setService 27 = .ok (.iload_n 2, 1) := by decide +kernel
theorem dX7_setService_28 : decode cX7_setService 28 = .ok (.ireturn, 1) := by decide +kernel
theorem dX7_setService_29 : decode cX7_setService 29 = .ok (.aload_n 0, 1) := by decide +kernel
theorem dX7_setService_30 : decode cX7_setService 30 = .ok (.getfield 22, 3) := by decide +kernel
theorem dX7_setService_33 : decode cX7_setService 33 = .ok (.iload_n 1, 1) := by decide +kernel
theorem dX7_setService_34 : decode cX7_setService 34 = .ok (.putfield 120, 3) := by decide +kernel
theorem dX7_setService_37 : decode cX7_setService 37 = .ok (.aload_n 0, 1) := by decide +kernel
theorem dX7_setService_38 : decode cX7_setService 38 = .ok (.invokevirtual 123, 3) := by decide +kernel
theorem dX7_setService_41 : decode cX7_setService 41 = .ok (.ifCond .ne 15, 3) := by decide +kernel
theorem dX7_setService_44 : decode cX7_setService 44 = .ok (.aload_n 0, 1) := by decide +kernel
theorem dX7_setService_45 : decode cX7_setService 45 = .ok (.getfield 22, 3) := by decide +kernel
theorem dX7_setService_48 : decode cX7_setService 48 = .ok (.iload_n 2, 1) := by decide +kernel
theorem dX7_setService_49 : decode cX7_setService 49 = .ok (.putfield 120, 3) := by decide +kernel
theorem dX7_setService_52 : decode cX7_setService 52 = .ok (.sipush (-1005), 3) := by decide +kernel
theorem dX7_setService_55 : decode cX7_setService 55 = .ok (.ireturn, 1) := by decide +kernel
theorem dX7_setService_56 : decode cX7_setService 56 = .ok (.aload_n 0, 1) := by decide +kernel
theorem dX7_setService_57 : decode cX7_setService 57 = .ok (.getfield 53, 3) := by decide +kernel
theorem dX7_setService_60 : decode cX7_setService 60 = .ok (.invokevirtual 86, 3) := by decide +kernel
theorem dX7_setService_63 : decode cX7_setService 63 = .ok (.iload_n 2, 1) := by decide +kernel
theorem dX7_setService_64 : decode cX7_setService 64 = .ok (.ireturn, 1) := by decide +kernel
theorem dX7_count_0 : decode cX7_count 0 = .ok (.iload_n 1, 1) := by decide +kernel
theorem dX7_count_1 : decode cX7_count 1 = .ok (.tableswitch 88 0 5 #[39, 47, 55, 60, 72, 80], 39) := by decide +kernel
theorem dX7_count_40 : decode cX7_count 40 = .ok (.aload_n 0, 1) := by decide +kernel
theorem dX7_count_41 : decode cX7_count 41 = .ok (.getfield 22, 3) := by decide +kernel
theorem dX7_count_44 : decode cX7_count 44 = .ok (.getfield 68, 3) := by decide +kernel
theorem dX7_count_47 : decode cX7_count 47 = .ok (.ireturn, 1) := by decide +kernel
theorem dX7_count_48 : decode cX7_count 48 = .ok (.aload_n 0, 1) := by decide +kernel
theorem dX7_count_49 : decode cX7_count 49 = .ok (.getfield 22, 3) := by decide +kernel
theorem dX7_count_52 : decode cX7_count 52 = .ok (.getfield 92, 3) := by decide +kernel
theorem dX7_count_55 : decode cX7_count 55 = .ok (.ireturn, 1) := by decide +kernel
theorem dX7_count_56 : decode cX7_count 56 = .ok (.aload_n 0, 1) := by decide +kernel
theorem dX7_count_57 : decode cX7_count 57 = .ok (.invokevirtual 127, 3) := by decide +kernel
theorem dX7_count_60 : decode cX7_count 60 = .ok (.ireturn, 1) := by decide +kernel
theorem dX7_count_61 : decode cX7_count 61 = .ok (.aload_n 0, 1) := by decide +kernel
theorem dX7_count_62 : decode cX7_count 62 = .ok (.getfield 22, 3) := by decide +kernel
theorem dX7_count_65 : decode cX7_count 65 = .ok (.aload_n 0, 1) := by decide +kernel
theorem dX7_count_66 : decode cX7_count 66 = .ok (.getfield 46, 3) := by decide +kernel
theorem dX7_count_69 : decode cX7_count 69 = .ok (.invokevirtual 131, 3) := by decide +kernel
theorem dX7_count_72 : decode cX7_count 72 = .ok (.ireturn, 1) := by decide +kernel
theorem dX7_count_73 : decode cX7_count 73 = .ok (.aload_n 0, 1) := by decide +kernel
theorem dX7_count_74 : decode cX7_count 74 = .ok (.getfield 22, 3) := by decide +kernel
theorem dX7_count_77 : decode cX7_count 77 = .ok (.getfield 120, 3) := by decide +kernel
theorem dX7_count_80 : decode cX7_count 80 = .ok (.ireturn, 1) := by decide +kernel
theorem dX7_count_81 : decode cX7_count 81 = .ok (.aload_n 0, 1) := by decide +kernel
theorem dX7_count_82 : decode cX7_count 82 = .ok (.getfield 53, 3) := by decide +kernel
theorem dX7_count_85 : decode cX7_count 85 = .ok (.getfield 135, 3) := by decide +kernel
theorem dX7_count_88 : decode cX7_count 88 = .ok (.ireturn, 1) := by decide +kernel
theorem dX7_count_89 : decode cX7_count 89 = .ok (.sipush (-1002), 3) := by decide +kernel
theorem dX7_count_92 : decode cX7_count 92 = .ok (.ireturn, 1) := by decide +kernel
theorem dX7_request_0 : decode cX7_request 0 = .ok (.aload_n 0, 1) := by decide +kernel
theorem dX7_request_1 : decode cX7_request 1 = .ok (.iload_n 1, 1) := by decide +kernel
theorem dX7_request_2 : decode cX7_request 2 = .ok (.invokevirtual 105, 3) := by decide +kernel
theorem dX7_request_5 : decode cX7_request 5 = .ok (.ifCond .ne 7, 3) := by decide +kernel
theorem dX7_request_8 : decode cX7_request 8 = .ok (.sipush (-1001), 3) := by decide +kernel
theorem dX7_request_11 : decode cX7_request 11 = .ok (.ireturn, 1) := by decide +kernel
theorem dX7_request_12 : decode cX7_request 12 = .ok (.iconst 2, 1) := by decide +kernel
theorem dX7_request_13 : decode cX7_request 13 = .ok (.iload_n 1, 1) := by decide +kernel
theorem dX7_request_14 : decode cX7_request 14 = .ok (.imul, 1) := by decide +kernel
theorem dX7_request_15 : decode cX7_request 15 = .ok (.istore_n 3, 1) := by decide +kernel
theorem dX7_request_16 : decode cX7_request 16 = .ok (.iload_n 2, 1) := by decide +kernel
theorem dX7_request_17 : decode cX7_request 17 = .ok (.tableswitch 149 0 7 #[47, 71, 81, 91, 101, 111, 123, 135], 47) := by decide +kernel
theorem dX7_request_64 : decode cX7_request 64 = .ok (.aload_n 0, 1) := by decide +kernel
theorem dX7_request_65 : decode cX7_request 65 = .ok (.iload_n 1, 1) := by decide +kernel
theorem dX7_request_66 : decode cX7_request 66 = .ok (.invokevirtual 138, 3) := by decide +kernel
theorem dX7_request_69 : decode cX7_request 69 = .ok (.ifCond .eq 9, 3) := by decide +kernel
theorem dX7_request_72 : decode cX7_request 72 = .ok (.sipush (-1007), 3) := by decide +kernel
theorem dX7_request_75 : decode cX7_request 75 = .ok (.goto 12, 3) := by decide +kernel
theorem dX7_request_78 : decode cX7_request 78 = .ok (.aload_n 0, 1) := by decide +kernel
theorem dX7_request_79 : decode cX7_request 79 = .ok (.getfield 46, 3) := by decide +kernel
theorem dX7_request_82 : decode cX7_request 82 = .ok (.getfield 141, 3) := by decide +kernel
theorem dX7_request_85 : decode cX7_request 85 = .ok (.iload_n 1, 1) := by decide +kernel
theorem dX7_request_86 : decode cX7_request 86 = .ok (.iaload, 1) := by decide +kernel
theorem dX7_request_87 : decode cX7_request 87 = .ok (.ireturn, 1) := by decide +kernel
theorem dX7_request_88 : decode cX7_request 88 = .ok (.aload_n 0, 1) := by decide +kernel
theorem dX7_request_89 : decode cX7_request 89 = .ok (.getfield 22, 3) := by decide +kernel
theorem dX7_request_92 : decode cX7_request 92 = .ok (.getfield 117, 3) := by decide +kernel
theorem dX7_request_95 : decode cX7_request 95 = .ok (.iload_n 3, 1) := by decide +kernel
theorem dX7_request_96 : decode cX7_request 96 = .ok (.iaload, 1) := by decide +kernel
theorem dX7_request_97 : decode cX7_request 97 = .ok (.ireturn, 1) := by decide +kernel
theorem dX7_request_98 : decode cX7_request 98 = .ok (.aload_n 0, 1) := by decide +kernel
theorem dX7_request_99 : decode cX7_request 99 = .ok (.getfield 22, 3) := by decide +kernel
theorem dX7_request_102 : decode cX7_request 102 = .ok (.getfield 99, 3) := by decide +kernel
theorem dX7_request_105 : decode cX7_request 105 = .ok (.iload_n 1, 1) := by decide +kernel
theorem dX7_request_106 : decode cX7_request 106 = .ok (.iaload, 1) := by decide +kernel
theorem dX7_request_107 : decode cX7_request 107 = .ok (.ireturn, 1) := by decide +kernel
theorem dX7_request_108 : decode cX7_request 108 = .ok (.aload_n 0, 1) := by decide +kernel
theorem dX7_request_109 : decode cX7_request 109 = .ok (.getfield 22, 3) := by decide +kernel
theorem dX7_request_112 : decode cX7_request 112 = .ok (.getfield 108, 3) := by decide +kernel
theorem dX7_request_115 : decode cX7_request 115 = .ok (.iload_n 3, 1) := by decide +kernel
theorem dX7_request_116 : decode cX7_request 116 = .ok (.iaload, 1) := by decide +kernel
theorem dX7_request_117 : decode cX7_request 117 = .ok (.ireturn, 1) := by decide +kernel
theorem dX7_request_118 : decode cX7_request 118 = .ok (.aload_n 0, 1) := by decide +kernel
theorem dX7_request_119 : decode cX7_request 119 = .ok (.getfield 22, 3) := by decide +kernel
theorem dX7_request_122 : decode cX7_request 122 = .ok (.getfield 111, 3) := by decide +kernel
theorem dX7_request_125 : decode cX7_request 125 = .ok (.iload_n 3, 1) := by decide +kernel
theorem dX7_request_126 : decode cX7_request 126 = .ok (.iaload, 1) := by decide +kernel
theorem dX7_request_127 : decode cX7_request 127 = .ok (.ireturn, 1) := by decide +kernel
theorem dX7_request_128 : decode cX7_request 128 = .ok (.aload_n 0, 1) := by decide +kernel
theorem dX7_request_129 : decode cX7_request 129 = .ok (.getfield 22, 3) := by decide +kernel
theorem dX7_request_132 : decode cX7_request 132 = .ok (.getfield 108, 3) := by decide +kernel
theorem dX7_request_135 : decode cX7_request 135 = .ok (.iload_n 3, 1) := by decide +kernel
theorem dX7_request_136 : decode cX7_request 136 = .ok (.iconst 1, 1) := by decide +kernel
theorem dX7_request_137 : decode cX7_request 137 = .ok (.iadd, 1) := by decide +kernel
theorem dX7_request_138 : decode cX7_request 138 = .ok (.iaload, 1) := by decide +kernel
theorem dX7_request_139 : decode cX7_request 139 = .ok (.ireturn, 1) := by decide +kernel
theorem dX7_request_140 : decode cX7_request 140 = .ok (.aload_n 0, 1) := by decide +kernel
theorem dX7_request_141 : decode cX7_request 141 = .ok (.getfield 22, 3) := by decide +kernel
theorem dX7_request_144 : decode cX7_request 144 = .ok (.getfield 111, 3) := by decide +kernel
theorem dX7_request_147 : decode cX7_request 147 = .ok (.iload_n 3, 1) := by decide +kernel
theorem dX7_request_148 : decode cX7_request 148 = .ok (.iconst 1, 1) := by decide +kernel
theorem dX7_request_149 : decode cX7_request 149 = .ok (.iadd, 1) := by decide +kernel
theorem dX7_request_150 : decode cX7_request 150 = .ok (.iaload, 1) := by decide +kernel
theorem dX7_request_151 : decode cX7_request 151 = .ok (.ireturn, 1) := by decide +kernel
theorem dX7_request_152 : decode cX7_request 152 = .ok (.aload_n 0, 1) := by decide +kernel
theorem dX7_request_153 : decode cX7_request 153 = .ok (.getfield 22, 3) := by decide +kernel
theorem dX7_request_156 : decode cX7_request 156 = .ok (.getfield 144, 3) := by decide +kernel
theorem dX7_request_159 : decode cX7_request 159 = .ok (.iload_n 3, 1) := by decide +kernel
theorem dX7_request_160 : decode cX7_request 160 = .ok (.aaload, 1) := by decide +kernel
theorem dX7_request_161 : decode cX7_request 161 = .ok (.iload_n 3, 1) := by decide +kernel
theorem dX7_request_162 : decode cX7_request 162 = .ok (.iconst 1, 1) := by decide +kernel
theorem dX7_request_163 : decode cX7_request 163 = .ok (.iadd, 1) := by decide +kernel
theorem dX7_request_164 : decode cX7_request 164 = .ok (.iaload, 1) := by decide +kernel
theorem dX7_request_165 : decode cX7_request 165 = .ok (.ireturn, 1) := by decide +kernel
theorem dX7_request_166 : decode cX7_request 166 = .ok (.sipush (-1002), 3) := by decide +kernel
theorem dX7_request_169 : decode cX7_request 169 = .ok (.ireturn, 1) := by decide +kernel
theorem dX7_vehicle_0 : decode cX7_vehicle 0 = .ok (.aload_n 0, 1) := by decide +kernel
theorem dX7_vehicle_1 : decode cX7_vehicle 1 = .ok (.iload_n 1, 1) := by decide +kernel
theorem dX7_vehicle_2 : decode cX7_vehicle 2 = .ok (.invokevirtual 148, 3) := by decide +kernel
theorem dX7_vehicle_5 : decode cX7_vehicle 5 = .ok (.ifCond .ne 7, 3) := by decide +kernel
theorem dX7_vehicle_8 : decode cX7_vehicle 8 = .ok (.sipush (-1001), 3) := by decide +kernel
theorem dX7_vehicle_11 : decode cX7_vehicle 11 = .ok (.ireturn, 1) := by decide +kernel
theorem dX7_vehicle_12 : decode cX7_vehicle 12 = .ok (.aload_n 0, 1) := by decide +kernel
theorem dX7_vehicle_13 : decode cX7_vehicle 13 = .ok (.getfield 46, 3) := by decide +kernel
theorem dX7_vehicle_16 : decode cX7_vehicle 16 = .ok (.getfield 151, 3) := by decide +kernel
theorem dX7_vehicle_19 : decode cX7_vehicle 19 = .ok (.iload_n 1, 1) := by decide +kernel
theorem dX7_vehicle_20 : decode cX7_vehicle 20 = .ok (.aaload, 1) := by decide +kernel
theorem dX7_vehicle_21 : decode cX7_vehicle 21 = .ok (.astore_n 3, 1) := by decide +kernel
theorem dX7_vehicle_22 : decode cX7_vehicle 22 = .ok (.iload_n 2, 1) := by decide +kernel
theorem dX7_vehicle_23 : decode cX7_vehicle 23 = .ok (.tableswitch 110 0 6 #[41, 51, 61, 71, 76, 85, 101], 41) := by decide +kernel
theorem dX7_vehicle_64 : decode cX7_vehicle 64 = .ok (.aload_n 0, 1) := by decide +kernel
theorem dX7_vehicle_65 : decode cX7_vehicle 65 = .ok (.getfield 22, 3) := by decide +kernel
theorem dX7_vehicle_68 : decode cX7_vehicle 68 = .ok (.getfield 72, 3) := by decide +kernel
theorem dX7_vehicle_71 : decode cX7_vehicle 71 = .ok (.iload_n 1, 1) := by decide +kernel
theorem dX7_vehicle_72 : decode cX7_vehicle 72 = .ok (.iaload, 1) := by decide +kernel
theorem dX7_vehicle_73 : decode cX7_vehicle 73 = .ok (.ireturn, 1) := by decide +kernel
theorem dX7_vehicle_74 : decode cX7_vehicle 74 = .ok (.aload_n 0, 1) := by decide +kernel
theorem dX7_vehicle_75 : decode cX7_vehicle 75 = .ok (.getfield 22, 3) := by decide +kernel
theorem dX7_vehicle_78 : decode cX7_vehicle 78 = .ok (.getfield 76, 3) := by decide +kernel
theorem dX7_vehicle_81 : decode cX7_vehicle 81 = .ok (.iload_n 1, 1) := by decide +kernel
theorem dX7_vehicle_82 : decode cX7_vehicle 82 = .ok (.iaload, 1) := by decide +kernel
theorem dX7_vehicle_83 : decode cX7_vehicle 83 = .ok (.ireturn, 1) := by decide +kernel
theorem dX7_vehicle_84 : decode cX7_vehicle 84 = .ok (.aload_n 0, 1) := by decide +kernel
theorem dX7_vehicle_85 : decode cX7_vehicle 85 = .ok (.getfield 22, 3) := by decide +kernel
theorem dX7_vehicle_88 : decode cX7_vehicle 88 = .ok (.getfield 79, 3) := by decide +kernel
theorem dX7_vehicle_91 : decode cX7_vehicle 91 = .ok (.iload_n 1, 1) := by decide +kernel
theorem dX7_vehicle_92 : decode cX7_vehicle 92 = .ok (.iaload, 1) := by decide +kernel
theorem dX7_vehicle_93 : decode cX7_vehicle 93 = .ok (.ireturn, 1) := by decide +kernel
theorem dX7_vehicle_94 : decode cX7_vehicle 94 = .ok (.aload_n 3, 1) := by decide +kernel
theorem dX7_vehicle_95 : decode cX7_vehicle 95 = .ok (.getfield 155, 3) := by decide +kernel
theorem dX7_vehicle_98 : decode cX7_vehicle 98 = .ok (.ireturn, 1) := by decide +kernel
theorem dX7_vehicle_99 : decode cX7_vehicle 99 = .ok (.aload_n 0, 1) := by decide +kernel
theorem dX7_vehicle_100 : decode cX7_vehicle 100 = .ok (.getfield 22, 3) := by decide +kernel
theorem dX7_vehicle_103 : decode cX7_vehicle 103 = .ok (.aload_n 3, 1) := by decide +kernel
theorem dX7_vehicle_104 : decode cX7_vehicle 104 = .ok (.invokevirtual 158, 3) := by decide +kernel
theorem dX7_vehicle_107 : decode cX7_vehicle 107 = .ok (.ireturn, 1) := by decide +kernel
theorem dX7_vehicle_108 : decode cX7_vehicle 108 = .ok (.aload_n 0, 1) := by decide +kernel
theorem dX7_vehicle_109 : decode cX7_vehicle 109 = .ok (.getfield 26, 3) := by decide +kernel
theorem dX7_vehicle_112 : decode cX7_vehicle 112 = .ok (.aload_n 3, 1) := by decide +kernel
theorem dX7_vehicle_113 : decode cX7_vehicle 113 = .ok (.invokevirtual 162, 3) := by decide +kernel
theorem dX7_vehicle_116 : decode cX7_vehicle 116 = .ok (.aload_n 0, 1) := by decide +kernel
theorem dX7_vehicle_117 : decode cX7_vehicle 117 = .ok (.getfield 26, 3) := by decide +kernel
theorem dX7_vehicle_120 : decode cX7_vehicle 120 = .ok (.getfield 166, 3) := by decide +kernel
theorem dX7_vehicle_123 : decode cX7_vehicle 123 = .ok (.ireturn, 1) := by decide +kernel
theorem dX7_vehicle_124 : decode cX7_vehicle 124 = .ok (.aload_n 0, 1) := by decide +kernel
theorem dX7_vehicle_125 : decode cX7_vehicle 125 = .ok (.getfield 46, 3) := by decide +kernel
theorem dX7_vehicle_128 : decode cX7_vehicle 128 = .ok (.iload_n 1, 1) := by decide +kernel
theorem dX7_vehicle_129 : decode cX7_vehicle 129 = .ok (.invokevirtual 169, 3) := by decide +kernel
theorem dX7_vehicle_132 : decode cX7_vehicle 132 = .ok (.ireturn, 1) := by decide +kernel
theorem dX7_vehicle_133 : decode cX7_vehicle 133 = .ok (.sipush (-1002), 3) := by decide +kernel
theorem dX7_vehicle_136 : decode cX7_vehicle 136 = .ok (.ireturn, 1) := by decide +kernel
theorem dX7_stop_0 : decode cX7_stop 0 = .ok (.aload_n 0, 1) := by decide +kernel
theorem dX7_stop_1 : decode cX7_stop 1 = .ok (.iload_n 1, 1) := by decide +kernel
theorem dX7_stop_2 : decode cX7_stop 2 = .ok (.invokevirtual 148, 3) := by decide +kernel
theorem dX7_stop_5 : decode cX7_stop 5 = .ok (.ifCond .ne 7, 3) := by decide +kernel
theorem dX7_stop_8 : decode cX7_stop 8 = .ok (.sipush (-1001), 3) := by decide +kernel
theorem dX7_stop_11 : decode cX7_stop 11 = .ok (.ireturn, 1) := by decide +kernel
theorem dX7_stop_12 : decode cX7_stop 12 = .ok (.aload_n 0, 1) := by decide +kernel
theorem dX7_stop_13 : decode cX7_stop 13 = .ok (.getfield 46, 3) := by decide +kernel
theorem dX7_stop_16 : decode cX7_stop 16 = .ok (.getfield 151, 3) := by decide +kernel
theorem dX7_stop_19 : decode cX7_stop 19 = .ok (.iload_n 1, 1) := by decide +kernel
theorem dX7_stop_20 : decode cX7_stop 20 = .ok (.aaload, 1) := by decide +kernel
theorem dX7_stop_21 : decode cX7_stop 21 = .ok (.astore 4, 2) := by decide +kernel
theorem dX7_stop_23 : decode cX7_stop 23 = .ok (.iload_n 2, 1) := by decide +kernel
theorem dX7_stop_24 : decode cX7_stop 24 = .ok (.ifCond .lt 12, 3) := by decide +kernel
theorem dX7_stop_27 : decode cX7_stop 27 = .ok (.iload_n 2, 1) := by decide +kernel
theorem dX7_stop_28 : decode cX7_stop 28 = .ok (.aload 4, 2) := by decide +kernel
theorem dX7_stop_30 : decode cX7_stop 30 = .ok (.getfield 155, 3) := by decide +kernel
theorem dX7_stop_33 : decode cX7_stop 33 = .ok (.if_icmp .lt 7, 3) := by decide +kernel
theorem dX7_stop_36 : decode cX7_stop 36 = .ok (.sipush (-1001), 3) := by decide +kernel
theorem dX7_stop_39 : decode cX7_stop 39 = .ok (.ireturn, 1) := by decide +kernel
theorem dX7_stop_40 : decode cX7_stop 40 = .ok (.aload 4, 2) := by decide +kernel
theorem dX7_stop_42 : decode cX7_stop 42 = .ok (.getfield 173, 3) := by decide +kernel
theorem dX7_stop_45 : decode cX7_stop 45 = .ok (.iload_n 2, 1) := by decide +kernel
theorem dX7_stop_46 : decode cX7_stop 46 = .ok (.iaload, 1) := by decide +kernel
theorem dX7_stop_47 : decode cX7_stop 47 = .ok (.istore 5, 2) := by decide +kernel
theorem dX7_stop_49 : decode cX7_stop 49 = .ok (.iload_n 3, 1) := by decide +kernel
theorem dX7_stop_50 : decode cX7_stop 50 = .ok (.tableswitch 125 0 5 #[38, 43, 48, 68, 87, 106], 38) := by decide +kernel
theorem dX7_stop_88 : decode cX7_stop 88 = .ok (.iload 5, 2) := by decide +kernel
theorem dX7_stop_90 : decode cX7_stop 90 = .ok (.iconst 2, 1) := by decide +kernel
theorem dX7_stop_91 : decode cX7_stop 91 = .ok (.idiv, 1) := by decide +kernel
theorem dX7_stop_92 : decode cX7_stop 92 = .ok (.ireturn, 1) := by decide +kernel
theorem dX7_stop_93 : decode cX7_stop 93 = .ok (.iload 5, 2) := by decide +kernel
theorem dX7_stop_95 : decode cX7_stop 95 = .ok (.iconst 2, 1) := by decide +kernel
theorem dX7_stop_96 : decode cX7_stop 96 = .ok (.irem, 1) := by decide +kernel
theorem dX7_stop_97 : decode cX7_stop 97 = .ok (.ireturn, 1) := by decide +kernel
theorem dX7_stop_98 : decode cX7_stop 98 = .ok (.aload_n 0, 1) := by decide +kernel
theorem dX7_stop_99 : decode cX7_stop 99 = .ok (.getfield 26, 3) := by decide +kernel
theorem dX7_stop_102 : decode cX7_stop 102 = .ok (.aload 4, 2) := by decide +kernel
theorem dX7_stop_104 : decode cX7_stop 104 = .ok (.invokevirtual 176, 3) := by decide +kernel
theorem dX7_stop_107 : decode cX7_stop 107 = .ok (.pop, 1) := by decide +kernel
theorem dX7_stop_108 : decode cX7_stop 108 = .ok (.aload_n 0, 1) := by decide +kernel
theorem dX7_stop_109 : decode cX7_stop 109 = .ok (.getfield 26, 3) := by decide +kernel
theorem dX7_stop_112 : decode cX7_stop 112 = .ok (.getfield 180, 3) := by decide +kernel
theorem dX7_stop_115 : decode cX7_stop 115 = .ok (.iload_n 2, 1) := by decide +kernel
theorem dX7_stop_116 : decode cX7_stop 116 = .ok (.iaload, 1) := by decide +kernel
theorem dX7_stop_117 : decode cX7_stop 117 = .ok (.ireturn, 1) := by decide +kernel
theorem dX7_stop_118 : decode cX7_stop 118 = .ok (.aload_n 0, 1) := by decide +kernel
theorem dX7_stop_119 : decode cX7_stop 119 = .ok (.getfield 26, 3) := by decide +kernel
theorem dX7_stop_122 : decode cX7_stop 122 = .ok (.aload 4, 2) := by decide +kernel
theorem dX7_stop_124 : decode cX7_stop 124 = .ok (.invokevirtual 183, 3) := by decide +kernel
theorem dX7_stop_127 : decode cX7_stop 127 = .ok (.aload_n 0, 1) := by decide +kernel
theorem dX7_stop_128 : decode cX7_stop 128 = .ok (.getfield 26, 3) := by decide +kernel
theorem dX7_stop_131 : decode cX7_stop 131 = .ok (.getfield 186, 3) := by decide +kernel
theorem dX7_stop_134 : decode cX7_stop 134 = .ok (.iload_n 2, 1) := by decide +kernel
theorem dX7_stop_135 : decode cX7_stop 135 = .ok (.iaload, 1) := by decide +kernel
theorem dX7_stop_136 : decode cX7_stop 136 = .ok (.ireturn, 1) := by decide +kernel
theorem dX7_stop_137 : decode cX7_stop 137 = .ok (.aload_n 0, 1) := by decide +kernel
theorem dX7_stop_138 : decode cX7_stop 138 = .ok (.getfield 26, 3) := by decide +kernel
theorem dX7_stop_141 : decode cX7_stop 141 = .ok (.aload 4, 2) := by decide +kernel
theorem dX7_stop_143 : decode cX7_stop 143 = .ok (.invokevirtual 162, 3) := by decide +kernel
theorem dX7_stop_146 : decode cX7_stop 146 = .ok (.aload_n 0, 1) := by decide +kernel
theorem dX7_stop_147 : decode cX7_stop 147 = .ok (.getfield 26, 3) := by decide +kernel
theorem dX7_stop_150 : decode cX7_stop 150 = .ok (.getfield 189, 3) := by decide +kernel
theorem dX7_stop_153 : decode cX7_stop 153 = .ok (.iload_n 2, 1) := by decide +kernel
theorem dX7_stop_154 : decode cX7_stop 154 = .ok (.iaload, 1) := by decide +kernel
theorem dX7_stop_155 : decode cX7_stop 155 = .ok (.ireturn, 1) := by decide +kernel
theorem dX7_stop_156 : decode cX7_stop 156 = .ok (.aload_n 0, 1) := by decide +kernel
theorem dX7_stop_157 : decode cX7_stop 157 = .ok (.getfield 26, 3) := by decide +kernel
theorem dX7_stop_160 : decode cX7_stop 160 = .ok (.aload 4, 2) := by decide +kernel
theorem dX7_stop_162 : decode cX7_stop 162 = .ok (.invokevirtual 176, 3) := by decide +kernel
theorem dX7_stop_165 : decode cX7_stop 165 = .ok (.pop, 1) := by decide +kernel
theorem dX7_stop_166 : decode cX7_stop 166 = .ok (.aload_n 0, 1) := by decide +kernel
theorem dX7_stop_167 : decode cX7_stop 167 = .ok (.getfield 26, 3) := by decide +kernel
theorem dX7_stop_170 : decode cX7_stop 170 = .ok (.iload_n 2, 1) := by decide +kernel
theorem dX7_stop_171 : decode cX7_stop 171 = .ok (.invokevirtual 192, 3) := by decide +kernel
theorem dX7_stop_174 : decode cX7_stop 174 = .ok (.ireturn, 1) := by decide +kernel
theorem dX7_stop_175 : decode cX7_stop 175 = .ok (.sipush (-1002), 3) := by decide +kernel
theorem dX7_stop_178 : decode cX7_stop 178 = .ok (.ireturn, 1) := by decide +kernel
theorem dX7_rideTime_0 : decode cX7_rideTime 0 = .ok (.aload_n 0, 1) := by decide +kernel
theorem dX7_rideTime_1 : decode cX7_rideTime 1 = .ok (.iload_n 1, 1) := by decide +kernel
theorem dX7_rideTime_2 : decode cX7_rideTime 2 = .ok (.invokevirtual 105, 3) := by decide +kernel
theorem dX7_rideTime_5 : decode cX7_rideTime 5 = .ok (.ifCond .ne 7, 3) := by decide +kernel
theorem dX7_rideTime_8 : decode cX7_rideTime 8 = .ok (.sipush (-1001), 3) := by decide +kernel
theorem dX7_rideTime_11 : decode cX7_rideTime 11 = .ok (.ireturn, 1) := by decide +kernel
theorem dX7_rideTime_12 : decode cX7_rideTime 12 = .ok (.aload_n 0, 1) := by decide +kernel
theorem dX7_rideTime_13 : decode cX7_rideTime 13 = .ok (.iload_n 1, 1) := by decide +kernel
theorem dX7_rideTime_14 : decode cX7_rideTime 14 = .ok (.invokevirtual 138, 3) := by decide +kernel
theorem dX7_rideTime_17 : decode cX7_rideTime 17 = .ok (.ifCond .eq 7, 3) := by decide +kernel
theorem dX7_rideTime_20 : decode cX7_rideTime 20 = .ok (.sipush (-1004), 3) := by decide +kernel
theorem dX7_rideTime_23 : decode cX7_rideTime 23 = .ok (.ireturn, 1) := by decide +kernel
theorem dX7_rideTime_24 : decode cX7_rideTime 24 = .ok (.aload_n 0, 1) := by decide +kernel
theorem dX7_rideTime_25 : decode cX7_rideTime 25 = .ok (.getfield 46, 3) := by decide +kernel
theorem dX7_rideTime_28 : decode cX7_rideTime 28 = .ok (.getfield 151, 3) := by decide +kernel
theorem dX7_rideTime_31 : decode cX7_rideTime 31 = .ok (.aload_n 0, 1) := by decide +kernel
theorem dX7_rideTime_32 : decode cX7_rideTime 32 = .ok (.getfield 46, 3) := by decide +kernel
theorem dX7_rideTime_35 : decode cX7_rideTime 35 = .ok (.getfield 141, 3) := by decide +kernel
theorem dX7_rideTime_38 : decode cX7_rideTime 38 = .ok (.iload_n 1, 1) := by decide +kernel
theorem dX7_rideTime_39 : decode cX7_rideTime 39 = .ok (.iaload, 1) := by decide +kernel
theorem dX7_rideTime_40 : decode cX7_rideTime 40 = .ok (.aaload, 1) := by decide +kernel
theorem dX7_rideTime_41 : decode cX7_rideTime 41 = .ok (.astore_n 3, 1) := by decide +kernel
theorem dX7_rideTime_42 : decode cX7_rideTime 42 = .ok (.iload_n 2, 1) := by decide +kernel
theorem dX7_rideTime_43 : decode cX7_rideTime 43 = .ok (.ifCond .eq 27, 3) := by decide +kernel
theorem dX7_rideTime_46 : decode cX7_rideTime 46 = .ok (.aload_n 0, 1) := by decide +kernel
theorem dX7_rideTime_47 : decode cX7_rideTime 47 = .ok (.getfield 26, 3) := by decide +kernel
theorem dX7_rideTime_50 : decode cX7_rideTime 50 = .ok (.aload_n 3, 1) := by decide +kernel
theorem dX7_rideTime_51 : decode cX7_rideTime 51 = .ok (.invokevirtual 183, 3) := by decide +kernel
theorem dX7_rideTime_54 : decode cX7_rideTime 54 = .ok (.aload_n 0, 1) := by decide +kernel
theorem dX7_rideTime_55 : decode cX7_rideTime 55 = .ok (.getfield 26, 3) := by decide +kernel
theorem dX7_rideTime_58 : decode cX7_rideTime 58 = .ok (.aload_n 0, 1) := by decide +kernel
theorem dX7_rideTime_59 : decode cX7_rideTime 59 = .ok (.getfield 26, 3) := by decide +kernel
theorem dX7_rideTime_62 : decode cX7_rideTime 62 = .ok (.getfield 186, 3) := by decide +kernel
theorem dX7_rideTime_65 : decode cX7_rideTime 65 = .ok (.iload_n 1, 1) := by decide +kernel
theorem dX7_rideTime_66 : decode cX7_rideTime 66 = .ok (.invokevirtual 195, 3) := by decide +kernel
theorem dX7_rideTime_69 : decode cX7_rideTime 69 = .ok (.ireturn, 1) := by decide +kernel
theorem dX7_rideTime_70 : decode cX7_rideTime 70 = .ok (.aload_n 0, 1) := by decide +kernel
theorem dX7_rideTime_71 : decode cX7_rideTime 71 = .ok (.getfield 26, 3) := by decide +kernel
theorem dX7_rideTime_74 : decode cX7_rideTime 74 = .ok (.aload_n 3, 1) := by decide +kernel
theorem dX7_rideTime_75 : decode cX7_rideTime 75 = .ok (.invokevirtual 176, 3) := by decide +kernel
theorem dX7_rideTime_78 : decode cX7_rideTime 78 = .ok (.pop, 1) := by decide +kernel
theorem dX7_rideTime_79 : decode cX7_rideTime 79 = .ok (.aload_n 0, 1) := by decide +kernel
theorem dX7_rideTime_80 : decode cX7_rideTime 80 = .ok (.getfield 26, 3) := by decide +kernel
theorem dX7_rideTime_83 : decode cX7_rideTime 83 = .ok (.aload_n 0, 1) := by decide +kernel
theorem dX7_rideTime_84 : decode cX7_rideTime 84 = .ok (.getfield 26, 3) := by decide +kernel
theorem dX7_rideTime_87 : decode cX7_rideTime 87 = .ok (.getfield 180, 3) := by decide +kernel
theorem dX7_rideTime_90 : decode cX7_rideTime 90 = .ok (.iload_n 1, 1) := by decide +kernel
theorem dX7_rideTime_91 : decode cX7_rideTime 91 = .ok (.invokevirtual 195, 3) := by decide +kernel
theorem dX7_rideTime_94 : decode cX7_rideTime 94 = .ok (.ireturn, 1) := by decide +kernel
theorem dX7_depotTime_0 : decode cX7_depotTime 0 = .ok (.aload_n 0, 1) := by decide +kernel
theorem dX7_depotTime_1 : decode cX7_depotTime 1 = .ok (.iload_n 1, 1) := by decide +kernel
theorem dX7_depotTime_2 : decode cX7_depotTime 2 = .ok (.invokevirtual 148, 3) := by decide +kernel
theorem dX7_depotTime_5 : decode cX7_depotTime 5 = .ok (.ifCond .ne 7, 3) := by decide +kernel
theorem dX7_depotTime_8 : decode cX7_depotTime 8 = .ok (.sipush (-1001), 3) := by decide +kernel
theorem dX7_depotTime_11 : decode cX7_depotTime 11 = .ok (.ireturn, 1) := by decide +kernel
theorem dX7_depotTime_12 : decode cX7_depotTime 12 = .ok (.aload_n 0, 1) := by decide +kernel
theorem dX7_depotTime_13 : decode cX7_depotTime 13 = .ok (.getfield 46, 3) := by decide +kernel
theorem dX7_depotTime_16 : decode cX7_depotTime 16 = .ok (.getfield 151, 3) := by decide +kernel
theorem dX7_depotTime_19 : decode cX7_depotTime 19 = .ok (.iload_n 1, 1) := by decide +kernel
theorem dX7_depotTime_20 : decode cX7_depotTime 20 = .ok (.aaload, 1) := by decide +kernel
theorem dX7_depotTime_21 : decode cX7_depotTime 21 = .ok (.astore_n 3, 1) := by decide +kernel
theorem dX7_depotTime_22 : decode cX7_depotTime 22 = .ok (.aload_n 3, 1) := by decide +kernel
theorem dX7_depotTime_23 : decode cX7_depotTime 23 = .ok (.getfield 155, 3) := by decide +kernel
theorem dX7_depotTime_26 : decode cX7_depotTime 26 = .ok (.ifCond .ne 7, 3) := by decide +kernel
theorem dX7_depotTime_29 : decode cX7_depotTime 29 = .ok (.sipush (-1007), 3) := by decide +kernel
theorem dX7_depotTime_32 : decode cX7_depotTime 32 = .ok (.ireturn, 1) := by decide +kernel
theorem dX7_depotTime_33 : decode cX7_depotTime 33 = .ok (.iload_n 2, 1) := by decide +kernel
theorem dX7_depotTime_34 : decode cX7_depotTime 34 = .ok (.ifCond .eq 40, 3) := by decide +kernel
theorem dX7_depotTime_37 : decode cX7_depotTime 37 = .ok (.aload_n 0, 1) := by decide +kernel
theorem dX7_depotTime_38 : decode cX7_depotTime 38 = .ok (.getfield 26, 3) := by decide +kernel
theorem dX7_depotTime_41 : decode cX7_depotTime 41 = .ok (.aload_n 3, 1) := by decide +kernel
theorem dX7_depotTime_42 : decode cX7_depotTime 42 = .ok (.invokevirtual 176, 3) := by decide +kernel
theorem dX7_depotTime_45 : decode cX7_depotTime 45 = .ok (.pop, 1) := by decide +kernel
theorem dX7_depotTime_46 : decode cX7_depotTime 46 = .ok (.aload_n 0, 1) := by decide +kernel
theorem dX7_depotTime_47 : decode cX7_depotTime 47 = .ok (.getfield 26, 3) := by decide +kernel
theorem dX7_depotTime_50 : decode cX7_depotTime 50 = .ok (.getfield 180, 3) := by decide +kernel
theorem dX7_depotTime_53 : decode cX7_depotTime 53 = .ok (.aload_n 3, 1) := by decide +kernel
theorem dX7_depotTime_54 : decode cX7_depotTime 54 = .ok (.getfield 155, 3) := by decide +kernel
theorem dX7_depotTime_57 : decode cX7_depotTime 57 = .ok (.iconst 1, 1) := by decide +kernel
theorem dX7_depotTime_58 : decode cX7_depotTime 58 = .ok (.isub, 1) := by decide +kernel
theorem dX7_depotTime_59 : decode cX7_depotTime 59 = .ok (.iaload, 1) := by decide +kernel
theorem dX7_depotTime_60 : decode cX7_depotTime 60 = .ok (.aload_n 0, 1) := by decide +kernel
theorem dX7_depotTime_61 : decode cX7_depotTime 61 = .ok (.getfield 26, 3) := by decide +kernel
theorem dX7_depotTime_64 : decode cX7_depotTime 64 = .ok (.getfield 199, 3) := by decide +kernel
theorem dX7_depotTime_67 : decode cX7_depotTime 67 = .ok (.aload_n 3, 1) := by decide +kernel
theorem dX7_depotTime_68 : decode cX7_depotTime 68 = .ok (.getfield 155, 3) := by decide +kernel
theorem dX7_depotTime_71 : decode cX7_depotTime 71 = .ok (.iaload, 1) := by decide +kernel
theorem dX7_depotTime_72 : decode cX7_depotTime 72 = .ok (.iadd, 1) := by decide +kernel
theorem dX7_depotTime_73 : decode cX7_depotTime 73 = .ok (.ireturn, 1) := by decide +kernel
theorem dX7_depotTime_74 : decode cX7_depotTime 74 = .ok (.aload_n 0, 1) := by decide +kernel
theorem dX7_depotTime_75 : decode cX7_depotTime 75 = .ok (.getfield 26, 3) := by decide +kernel
theorem dX7_depotTime_78 : decode cX7_depotTime 78 = .ok (.aload_n 3, 1) := by decide +kernel
theorem dX7_depotTime_79 : decode cX7_depotTime 79 = .ok (.invokevirtual 183, 3) := by decide +kernel
theorem dX7_depotTime_82 : decode cX7_depotTime 82 = .ok (.aload_n 0, 1) := by decide +kernel
theorem dX7_depotTime_83 : decode cX7_depotTime 83 = .ok (.getfield 26, 3) := by decide +kernel
theorem dX7_depotTime_86 : decode cX7_depotTime 86 = .ok (.getfield 186, 3) := by decide +kernel
theorem dX7_depotTime_89 : decode cX7_depotTime 89 = .ok (.iconst 0, 1) := by decide +kernel
theorem dX7_depotTime_90 : decode cX7_depotTime 90 = .ok (.iaload, 1) := by decide +kernel
theorem dX7_depotTime_91 : decode cX7_depotTime 91 = .ok (.aload_n 0, 1) := by decide +kernel
theorem dX7_depotTime_92 : decode cX7_depotTime 92 = .ok (.getfield 26, 3) := by decide +kernel
theorem dX7_depotTime_95 : decode cX7_depotTime 95 = .ok (.getfield 199, 3) := by decide +kernel
theorem dX7_depotTime_98 : decode cX7_depotTime 98 = .ok (.iconst 0, 1) := by decide +kernel
theorem dX7_depotTime_99 : decode cX7_depotTime 99 = .ok (.iaload, 1) := by decide +kernel
theorem dX7_depotTime_100 : decode cX7_depotTime 100 = .ok (.isub, 1) := by decide +kernel
theorem dX7_depotTime_101 : decode cX7_depotTime 101 = .ok (.ireturn, 1) := by decide +kernel
theorem dX7_cost_0 : decode cX7_cost 0 = .ok (.aload_n 0, 1) := by decide +kernel
theorem dX7_cost_1 : decode cX7_cost 1 = .ok (.iload_n 1, 1) := by decide +kernel
theorem dX7_cost_2 : decode cX7_cost 2 = .ok (.iload_n 2, 1) := by decide +kernel
theorem dX7_cost_3 : decode cX7_cost 3 = .ok (.iload_n 3, 1) := by decide +kernel
theorem dX7_cost_4 : decode cX7_cost 4 = .ok (.iload 4, 2) := by decide +kernel
theorem dX7_cost_6 : decode cX7_cost 6 = .ok (.invokevirtual 202, 3) := by decide +kernel
theorem dX7_cost_9 : decode cX7_cost 9 = .ok (.istore 5, 2) := by decide +kernel
theorem dX7_cost_11 : decode cX7_cost 11 = .ok (.iload 5, 2) := by decide +kernel
theorem dX7_cost_13 : decode cX7_cost 13 = .ok (.ifCond .eq 6, 3) := by decide +kernel
theorem dX7_cost_16 : decode cX7_cost 16 = .ok (.iload 5, 2) := by decide +kernel
theorem dX7_cost_18 : decode cX7_cost 18 = .ok (.ireturn, 1) := by decide +kernel
theorem dX7_cost_19 : decode cX7_cost 19 = .ok (.aload_n 0, 1) := by decide +kernel
theorem dX7_cost_20 : decode cX7_cost 20 = .ok (.getfield 22, 3) := by decide +kernel
theorem dX7_cost_23 : decode cX7_cost 23 = .ok (.aload_n 0, 1) := by decide +kernel
theorem dX7_cost_24 : decode cX7_cost 24 = .ok (.getfield 46, 3) := by decide +kernel
theorem dX7_cost_27 : decode cX7_cost 27 = .ok (.getfield 151, 3) := by decide +kernel
theorem dX7_cost_30 : decode cX7_cost 30 = .ok (.iload_n 2, 1) := by decide +kernel
theorem dX7_cost_31 : decode cX7_cost 31 = .ok (.aaload, 1) := by decide +kernel
theorem dX7_cost_32 : decode cX7_cost 32 = .ok (.iload_n 1, 1) := by decide +kernel
theorem dX7_cost_33 : decode cX7_cost 33 = .ok (.iload_n 3, 1) := by decide +kernel
theorem dX7_cost_34 : decode cX7_cost 34 = .ok (.iload 4, 2) := by decide +kernel
theorem dX7_cost_36 : decode cX7_cost 36 = .ok (.invokevirtual 206, 3) := by decide +kernel
theorem dX7_cost_39 : decode cX7_cost 39 = .ok (.ireturn, 1) := by decide +kernel
theorem dX7_insert_0 : decode cX7_insert 0 = .ok (.aload_n 0, 1) := by decide +kernel
theorem dX7_insert_1 : decode cX7_insert 1 = .ok (.iload_n 1, 1) := by decide +kernel
theorem dX7_insert_2 : decode cX7_insert 2 = .ok (.iload_n 2, 1) := by decide +kernel
theorem dX7_insert_3 : decode cX7_insert 3 = .ok (.iload_n 3, 1) := by decide +kernel
theorem dX7_insert_4 : decode cX7_insert 4 = .ok (.iload 4, 2) := by decide +kernel
theorem dX7_insert_6 : decode cX7_insert 6 = .ok (.invokevirtual 202, 3) := by decide +kernel
theorem dX7_insert_9 : decode cX7_insert 9 = .ok (.istore 5, 2) := by decide +kernel
theorem dX7_insert_11 : decode cX7_insert 11 = .ok (.iload 5, 2) := by decide +kernel
theorem dX7_insert_13 : decode cX7_insert 13 = .ok (.ifCond .eq 6, 3) := by decide +kernel
theorem dX7_insert_16 : decode cX7_insert 16 = .ok (.iload 5, 2) := by decide +kernel
theorem dX7_insert_18 : decode cX7_insert 18 = .ok (.ireturn, 1) := by decide +kernel
theorem dX7_insert_19 : decode cX7_insert 19 = .ok (.aload_n 0, 1) := by decide +kernel
theorem dX7_insert_20 : decode cX7_insert 20 = .ok (.getfield 22, 3) := by decide +kernel
theorem dX7_insert_23 : decode cX7_insert 23 = .ok (.aload_n 0, 1) := by decide +kernel
theorem dX7_insert_24 : decode cX7_insert 24 = .ok (.getfield 46, 3) := by decide +kernel
theorem dX7_insert_27 : decode cX7_insert 27 = .ok (.getfield 151, 3) := by decide +kernel
theorem dX7_insert_30 : decode cX7_insert 30 = .ok (.iload_n 2, 1) := by decide +kernel
theorem dX7_insert_31 : decode cX7_insert 31 = .ok (.aaload, 1) := by decide +kernel
theorem dX7_insert_32 : decode cX7_insert 32 = .ok (.iload_n 1, 1) := by decide +kernel
theorem dX7_insert_33 : decode cX7_insert 33 = .ok (.iload_n 3, 1) := by decide +kernel
theorem dX7_insert_34 : decode cX7_insert 34 = .ok (.iload 4, 2) := by decide +kernel
theorem dX7_insert_36 : decode cX7_insert 36 = .ok (.invokevirtual 206, 3) := by decide +kernel
theorem dX7_insert_39 : decode cX7_insert 39 = .ok (.istore 6, 2) := by decide +kernel
theorem dX7_insert_41 : decode cX7_insert 41 = .ok (.aload_n 0, 1) := by decide +kernel
theorem dX7_insert_42 : decode cX7_insert 42 = .ok (.getfield 53, 3) := by decide +kernel
theorem dX7_insert_45 : decode cX7_insert 45 = .ok (.aload_n 0, 1) := by decide +kernel
theorem dX7_insert_46 : decode cX7_insert 46 = .ok (.getfield 46, 3) := by decide +kernel
theorem dX7_insert_49 : decode cX7_insert 49 = .ok (.invokevirtual 210, 3) := by decide +kernel
theorem dX7_insert_52 : decode cX7_insert 52 = .ok (.aload_n 0, 1) := by decide +kernel
theorem dX7_insert_53 : decode cX7_insert 53 = .ok (.getfield 46, 3) := by decide +kernel
theorem dX7_insert_56 : decode cX7_insert 56 = .ok (.iload_n 1, 1) := by decide +kernel
theorem dX7_insert_57 : decode cX7_insert 57 = .ok (.iload_n 2, 1) := by decide +kernel
theorem dX7_insert_58 : decode cX7_insert 58 = .ok (.iload_n 3, 1) := by decide +kernel
theorem dX7_insert_59 : decode cX7_insert 59 = .ok (.iload 4, 2) := by decide +kernel
theorem dX7_insert_61 : decode cX7_insert 61 = .ok (.invokevirtual 214, 3) := by decide +kernel
theorem dX7_insert_64 : decode cX7_insert 64 = .ok (.iload 6, 2) := by decide +kernel
theorem dX7_insert_66 : decode cX7_insert 66 = .ok (.ireturn, 1) := by decide +kernel
theorem dX7_best_0 : decode cX7_best 0 = .ok (.aload_n 0, 1) := by decide +kernel
theorem dX7_best_1 : decode cX7_best 1 = .ok (.iload_n 1, 1) := by decide +kernel
theorem dX7_best_2 : decode cX7_best 2 = .ok (.iload_n 2, 1) := by decide +kernel
theorem dX7_best_3 : decode cX7_best 3 = .ok (.invokevirtual 218, 3) := by decide +kernel
theorem dX7_best_6 : decode cX7_best 6 = .ok (.istore_n 3, 1) := by decide +kernel
theorem dX7_best_7 : decode cX7_best 7 = .ok (.iload_n 3, 1) := by decide +kernel
theorem dX7_best_8 : decode cX7_best 8 = .ok (.ifCond .eq 5, 3) := by decide +kernel
theorem dX7_best_11 : decode cX7_best 11 = .ok (.iload_n 3, 1) := by decide +kernel
theorem dX7_best_12 : decode cX7_best 12 = .ok (.ireturn, 1) := by decide +kernel
theorem dX7_best_13 : decode cX7_best 13 = .ok (.aload_n 0, 1) := by decide +kernel
theorem dX7_best_14 : decode cX7_best 14 = .ok (.getfield 30, 3) := by decide +kernel
theorem dX7_best_17 : decode cX7_best 17 = .ok (.invokevirtual 222, 3) := by decide +kernel
theorem dX7_best_20 : decode cX7_best 20 = .ok (.aload_n 0, 1) := by decide +kernel
theorem dX7_best_21 : decode cX7_best 21 = .ok (.getfield 30, 3) := by decide +kernel
theorem dX7_best_24 : decode cX7_best 24 = .ok (.aload_n 0, 1) := by decide +kernel
theorem dX7_best_25 : decode cX7_best 25 = .ok (.getfield 46, 3) := by decide +kernel
theorem dX7_best_28 : decode cX7_best 28 = .ok (.getfield 151, 3) := by decide +kernel
theorem dX7_best_31 : decode cX7_best 31 = .ok (.iload_n 2, 1) := by decide +kernel
theorem dX7_best_32 : decode cX7_best 32 = .ok (.aaload, 1) := by decide +kernel
theorem dX7_best_33 : decode cX7_best 33 = .ok (.iload_n 1, 1) := by decide +kernel
theorem dX7_best_34 : decode cX7_best 34 = .ok (.invokevirtual 225, 3) := by decide +kernel
theorem dX7_best_37 : decode cX7_best 37 = .ok (.aload_n 0, 1) := by decide +kernel
theorem dX7_best_38 : decode cX7_best 38 = .ok (.getfield 30, 3) := by decide +kernel
theorem dX7_best_41 : decode cX7_best 41 = .ok (.getfield 229, 3) := by decide +kernel
theorem dX7_best_44 : decode cX7_best 44 = .ok (.ifCond .eq 24, 3) := by decide +kernel
theorem dX7_best_47 : decode cX7_best 47 = .ok (.bipush 100, 2) := by decide +kernel
theorem dX7_best_49 : decode cX7_best 49 = .ok (.aload_n 0, 1) := by decide +kernel
theorem dX7_best_50 : decode cX7_best 50 = .ok (.getfield 30, 3) := by decide +kernel
theorem dX7_best_53 : decode cX7_best 53 = .ok (.getfield 233, 3) := by decide +kernel
theorem dX7_best_56 : decode cX7_best 56 = .ok (.imul, 1) := by decide +kernel
theorem dX7_best_57 : decode cX7_best 57 = .ok (.aload_n 0, 1) := by decide +kernel
theorem dX7_best_58 : decode cX7_best 58 = .ok (.getfield 30, 3) := by decide +kernel
theorem dX7_best_61 : decode cX7_best 61 = .ok (.getfield 236, 3) := by decide +kernel
theorem dX7_best_64 : decode cX7_best 64 = .ok (.iadd, 1) := by decide +kernel
theorem dX7_best_65 : decode cX7_best 65 = .ok (.goto 6, 3) := by decide +kernel
theorem dX7_best_68 : decode cX7_best 68 = .ok (.sipush (-1007), 3) := by decide +kernel
theorem dX7_best_71 : decode cX7_best 71 = .ok (.ireturn, 1) := by decide +kernel
theorem dX7_assignTo_0 : decode cX7_assignTo 0 = .ok (.aload_n 0, 1) := by decide +kernel
theorem dX7_assignTo_1 : decode cX7_assignTo 1 = .ok (.iload_n 1, 1) := by decide +kernel
theorem dX7_assignTo_2 : decode cX7_assignTo 2 = .ok (.iload_n 2, 1) := by decide +kernel
theorem dX7_assignTo_3 : decode cX7_assignTo 3 = .ok (.invokevirtual 218, 3) := by decide +kernel
theorem dX7_assignTo_6 : decode cX7_assignTo 6 = .ok (.istore_n 3, 1) := by decide +kernel
theorem dX7_assignTo_7 : decode cX7_assignTo 7 = .ok (.iload_n 3, 1) := by decide +kernel
theorem dX7_assignTo_8 : decode cX7_assignTo 8 = .ok (.ifCond .eq 5, 3) := by decide +kernel
theorem dX7_assignTo_11 : decode cX7_assignTo 11 = .ok (.iload_n 3, 1) := by decide +kernel
theorem dX7_assignTo_12 : decode cX7_assignTo 12 = .ok (.ireturn, 1) := by decide +kernel
theorem dX7_assignTo_13 : decode cX7_assignTo 13 = .ok (.aload_n 0, 1) := by decide +kernel
theorem dX7_assignTo_14 : decode cX7_assignTo 14 = .ok (.getfield 30, 3) := by decide +kernel
theorem dX7_assignTo_17 : decode cX7_assignTo 17 = .ok (.invokevirtual 222, 3) := by decide +kernel
theorem dX7_assignTo_20 : decode cX7_assignTo 20 = .ok (.aload_n 0, 1) := by decide +kernel
theorem dX7_assignTo_21 : decode cX7_assignTo 21 = .ok (.getfield 30, 3) := by decide +kernel
theorem dX7_assignTo_24 : decode cX7_assignTo 24 = .ok (.aload_n 0, 1) := by decide +kernel
theorem dX7_assignTo_25 : decode cX7_assignTo 25 = .ok (.getfield 46, 3) := by decide +kernel
theorem dX7_assignTo_28 : decode cX7_assignTo 28 = .ok (.getfield 151, 3) := by decide +kernel
theorem dX7_assignTo_31 : decode cX7_assignTo 31 = .ok (.iload_n 2, 1) := by decide +kernel
theorem dX7_assignTo_32 : decode cX7_assignTo 32 = .ok (.aaload, 1) := by decide +kernel
theorem dX7_assignTo_33 : decode cX7_assignTo 33 = .ok (.iload_n 1, 1) := by decide +kernel
theorem dX7_assignTo_34 : decode cX7_assignTo 34 = .ok (.invokevirtual 225, 3) := by decide +kernel
theorem dX7_assignTo_37 : decode cX7_assignTo 37 = .ok (.aload_n 0, 1) := by decide +kernel
theorem dX7_assignTo_38 : decode cX7_assignTo 38 = .ok (.iload_n 1, 1) := by decide +kernel
theorem dX7_assignTo_39 : decode cX7_assignTo 39 = .ok (.invokevirtual 239, 3) := by decide +kernel
theorem dX7_assignTo_42 : decode cX7_assignTo 42 = .ok (.ifCond .eq 13, 3) := by decide +kernel
theorem dX7_assignTo_45 : decode cX7_assignTo 45 = .ok (.aload_n 0, 1) := by decide +kernel
theorem dX7_assignTo_46 : decode cX7_assignTo 46 = .ok (.getfield 30, 3) := by decide +kernel
theorem dX7_assignTo_49 : decode cX7_assignTo 49 = .ok (.getfield 242, 3) := by decide +kernel
theorem dX7_assignTo_52 : decode cX7_assignTo 52 = .ok (.goto 6, 3) := by decide +kernel
theorem dX7_assignTo_55 : decode cX7_assignTo 55 = .ok (.sipush (-1005), 3) := by decide +kernel
theorem dX7_assignTo_58 : decode cX7_assignTo 58 = .ok (.ireturn, 1) := by decide +kernel
theorem dX7_assign_0 : decode cX7_assign 0 = .ok (.aload_n 0, 1) := by decide +kernel
theorem dX7_assign_1 : decode cX7_assign 1 = .ok (.iload_n 1, 1) := by decide +kernel
theorem dX7_assign_2 : decode cX7_assign 2 = .ok (.invokevirtual 245, 3) := by decide +kernel
theorem dX7_assign_5 : decode cX7_assign 5 = .ok (.istore_n 2, 1) := by decide +kernel
theorem dX7_assign_6 : decode cX7_assign 6 = .ok (.iload_n 2, 1) := by decide +kernel
theorem dX7_assign_7 : decode cX7_assign 7 = .ok (.ifCond .eq 5, 3) := by decide +kernel
theorem dX7_assign_10 : decode cX7_assign 10 = .ok (.iload_n 2, 1) := by decide +kernel
theorem dX7_assign_11 : decode cX7_assign 11 = .ok (.ireturn, 1) := by decide +kernel
theorem dX7_assign_12 : decode cX7_assign 12 = .ok (.aload_n 0, 1) := by decide +kernel
theorem dX7_assign_13 : decode cX7_assign 13 = .ok (.getfield 30, 3) := by decide +kernel
theorem dX7_assign_16 : decode cX7_assign 16 = .ok (.iconst (-1), 1) := by decide +kernel
theorem dX7_assign_17 : decode cX7_assign 17 = .ok (.aload_n 0, 1) := by decide +kernel
theorem dX7_assign_18 : decode cX7_assign 18 = .ok (.getfield 46, 3) := by decide +kernel
theorem dX7_assign_21 : decode cX7_assign 21 = .ok (.iload_n 1, 1) := by decide +kernel
theorem dX7_assign_22 : decode cX7_assign 22 = .ok (.invokevirtual 247, 3) := by decide +kernel
theorem dX7_assign_25 : decode cX7_assign 25 = .ok (.aload_n 0, 1) := by decide +kernel
theorem dX7_assign_26 : decode cX7_assign 26 = .ok (.iload_n 1, 1) := by decide +kernel
theorem dX7_assign_27 : decode cX7_assign 27 = .ok (.invokevirtual 239, 3) := by decide +kernel
theorem dX7_assign_30 : decode cX7_assign 30 = .ok (.ifCond .eq 13, 3) := by decide +kernel
theorem dX7_assign_33 : decode cX7_assign 33 = .ok (.aload_n 0, 1) := by decide +kernel
theorem dX7_assign_34 : decode cX7_assign 34 = .ok (.getfield 30, 3) := by decide +kernel
theorem dX7_assign_37 : decode cX7_assign 37 = .ok (.getfield 251, 3) := by decide +kernel
theorem dX7_assign_40 : decode cX7_assign 40 = .ok (.goto 6, 3) := by decide +kernel
theorem dX7_assign_43 : decode cX7_assign 43 = .ok (.sipush (-1005), 3) := by decide +kernel
theorem dX7_assign_46 : decode cX7_assign 46 = .ok (.ireturn, 1) := by decide +kernel
theorem dX7_remove_0 : decode cX7_remove 0 = .ok (.aload_n 0, 1) := by decide +kernel
theorem dX7_remove_1 : decode cX7_remove 1 = .ok (.iload_n 1, 1) := by decide +kernel
theorem dX7_remove_2 : decode cX7_remove 2 = .ok (.invokevirtual 105, 3) := by decide +kernel
theorem dX7_remove_5 : decode cX7_remove 5 = .ok (.ifCond .ne 7, 3) := by decide +kernel
theorem dX7_remove_8 : decode cX7_remove 8 = .ok (.sipush (-1001), 3) := by decide +kernel
theorem dX7_remove_11 : decode cX7_remove 11 = .ok (.ireturn, 1) := by decide +kernel
theorem dX7_remove_12 : decode cX7_remove 12 = .ok (.aload_n 0, 1) := by decide +kernel
theorem dX7_remove_13 : decode cX7_remove 13 = .ok (.iload_n 1, 1) := by decide +kernel
theorem dX7_remove_14 : decode cX7_remove 14 = .ok (.invokevirtual 138, 3) := by decide +kernel
theorem dX7_remove_17 : decode cX7_remove 17 = .ok (.ifCond .eq 7, 3) := by decide +kernel
theorem dX7_remove_20 : decode cX7_remove 20 = .ok (.sipush (-1004), 3) := by decide +kernel
theorem dX7_remove_23 : decode cX7_remove 23 = .ok (.ireturn, 1) := by decide +kernel
theorem dX7_remove_24 : decode cX7_remove 24 = .ok (.aload_n 0, 1) := by decide +kernel
theorem dX7_remove_25 : decode cX7_remove 25 = .ok (.getfield 22, 3) := by decide +kernel
theorem dX7_remove_28 : decode cX7_remove 28 = .ok (.aload_n 0, 1) := by decide +kernel
theorem dX7_remove_29 : decode cX7_remove 29 = .ok (.getfield 46, 3) := by decide +kernel
theorem dX7_remove_32 : decode cX7_remove 32 = .ok (.invokevirtual 131, 3) := by decide +kernel
theorem dX7_remove_35 : decode cX7_remove 35 = .ok (.istore_n 2, 1) := by decide +kernel
theorem dX7_remove_36 : decode cX7_remove 36 = .ok (.aload_n 0, 1) := by decide +kernel
theorem dX7_remove_37 : decode cX7_remove 37 = .ok (.getfield 53, 3) := by decide +kernel
theorem dX7_remove_40 : decode cX7_remove 40 = .ok (.aload_n 0, 1) := by decide +kernel
theorem dX7_remove_41 : decode cX7_remove 41 = .ok (.getfield 46, 3) := by decide +kernel
theorem dX7_remove_44 : decode cX7_remove 44 = .ok (.invokevirtual 210, 3) := by decide +kernel
theorem dX7_remove_47 : decode cX7_remove 47 = .ok (.aload_n 0, 1) := by decide +kernel
theorem dX7_remove_48 : decode cX7_remove 48 = .ok (.getfield 46, 3) := by decide +kernel
theorem dX7_remove_51 : decode cX7_remove 51 = .ok (.iload_n 1, 1) := by decide +kernel
theorem dX7_remove_52 : decode cX7_remove 52 = .ok (.invokevirtual 254, 3) := by decide +kernel
theorem dX7_remove_55 : decode cX7_remove 55 = .ok (.iload_n 2, 1) := by decide +kernel
theorem dX7_remove_56 : decode cX7_remove 56 = .ok (.aload_n 0, 1) := by decide +kernel
theorem dX7_remove_57 : decode cX7_remove 57 = .ok (.getfield 22, 3) := by decide +kernel
theorem dX7_remove_60 : decode cX7_remove 60 = .ok (.aload_n 0, 1) := by decide +kernel
theorem dX7_remove_61 : decode cX7_remove 61 = .ok (.getfield 46, 3) := by decide +kernel
theorem dX7_remove_64 : decode cX7_remove 64 = .ok (.invokevirtual 131, 3) := by decide +kernel
theorem dX7_remove_67 : decode cX7_remove 67 = .ok (.isub, 1) := by decide +kernel
theorem dX7_remove_68 : decode cX7_remove 68 = .ok (.ireturn, 1) := by decide +kernel
theorem dX7_chainCost_0 : decode cX7_chainCost 0 = .ok (.aload_n 0, 1) := by decide +kernel
theorem dX7_chainCost_1 : decode cX7_chainCost 1 = .ok (.iload_n 1, 1) := by decide +kernel
theorem dX7_chainCost_2 : decode cX7_chainCost 2 = .ok (.invokevirtual 245, 3) := by decide +kernel
theorem dX7_chainCost_5 : decode cX7_chainCost 5 = .ok (.istore_n 2, 1) := by decide +kernel
theorem dX7_chainCost_6 : decode cX7_chainCost 6 = .ok (.iload_n 2, 1) := by decide +kernel
theorem dX7_chainCost_7 : decode cX7_chainCost 7 = .ok (.ifCond .eq 5, 3) := by decide +kernel
theorem dX7_chainCost_10 : decode cX7_chainCost 10 = .ok (.iload_n 2, 1) := by decide +kernel
theorem dX7_chainCost_11 : decode cX7_chainCost 11 = .ok (.ireturn, 1) := by decide +kernel
theorem dX7_chainCost_12 : decode cX7_chainCost 12 = .ok (.aload_n 0, 1) := by decide +kernel
theorem dX7_chainCost_13 : decode cX7_chainCost 13 = .ok (.getfield 39, 3) := by decide +kernel
theorem dX7_chainCost_16 : decode cX7_chainCost 16 = .ok (.aload_n 0, 1) := by decide +kernel
theorem dX7_chainCost_17 : decode cX7_chainCost 17 = .ok (.getfield 46, 3) := by decide +kernel
theorem dX7_chainCost_20 : decode cX7_chainCost 20 = .ok (.iload_n 1, 1) := by decide +kernel
theorem dX7_chainCost_21 : decode cX7_chainCost 21 = .ok (.invokevirtual 258, 3) := by decide +kernel
theorem dX7_chainCost_24 : decode cX7_chainCost 24 = .ok (.aload_n 0, 1) := by decide +kernel
theorem dX7_chainCost_25 : decode cX7_chainCost 25 = .ok (.getfield 39, 3) := by decide +kernel
theorem dX7_chainCost_28 : decode cX7_chainCost 28 = .ok (.getfield 262, 3) := by decide +kernel
theorem dX7_chainCost_31 : decode cX7_chainCost 31 = .ok (.ifCond .eq 17, 3) := by decide +kernel
theorem dX7_chainCost_34 : decode cX7_chainCost 34 = .ok (.aload_n 0, 1) := by decide +kernel
theorem dX7_chainCost_35 : decode cX7_chainCost 35 = .ok (.getfield 39, 3) := by decide +kernel
theorem dX7_chainCost_38 : decode cX7_chainCost 38 = .ok (.getfield 263, 3) := by decide +kernel
theorem dX7_chainCost_41 : decode cX7_chainCost 41 = .ok (.sipush 10000, 3) := by decide +kernel
theorem dX7_chainCost_44 : decode cX7_chainCost 44 = .ok (.iadd, 1) := by decide +kernel
theorem dX7_chainCost_45 : decode cX7_chainCost 45 = .ok (.goto 6, 3) := by decide +kernel
theorem dX7_chainCost_48 : decode cX7_chainCost 48 = .ok (.sipush (-1005), 3) := by decide +kernel
theorem dX7_chainCost_51 : decode cX7_chainCost 51 = .ok (.ireturn, 1) := by decide +kernel
theorem dX7_chain_0 : decode cX7_chain 0 = .ok (.aload_n 0, 1) := by decide +kernel
theorem dX7_chain_1 : decode cX7_chain 1 = .ok (.iload_n 1, 1) := by decide +kernel
theorem dX7_chain_2 : decode cX7_chain 2 = .ok (.invokevirtual 245, 3) := by decide +kernel
theorem dX7_chain_5 : decode cX7_chain 5 = .ok (.istore_n 2, 1) := by decide +kernel
theorem dX7_chain_6 : decode cX7_chain 6 = .ok (.iload_n 2, 1) := by decide +kernel
theorem dX7_chain_7 : decode cX7_chain 7 = .ok (.ifCond .eq 5, 3) := by decide +kernel
theorem dX7_chain_10 : decode cX7_chain 10 = .ok (.iload_n 2, 1) := by decide +kernel
theorem dX7_chain_11 : decode cX7_chain 11 = .ok (.ireturn, 1) := by decide +kernel
theorem dX7_chain_12 : decode cX7_chain 12 = .ok (.aload_n 0, 1) := by decide +kernel
theorem dX7_chain_13 : decode cX7_chain 13 = .ok (.getfield 39, 3) := by decide +kernel
theorem dX7_chain_16 : decode cX7_chain 16 = .ok (.aload_n 0, 1) := by decide +kernel
theorem dX7_chain_17 : decode cX7_chain 17 = .ok (.getfield 46, 3) := by decide +kernel
theorem dX7_chain_20 : decode cX7_chain 20 = .ok (.iload_n 1, 1) := by decide +kernel
theorem dX7_chain_21 : decode cX7_chain 21 = .ok (.invokevirtual 258, 3) := by decide +kernel
theorem dX7_chain_24 : decode cX7_chain 24 = .ok (.aload_n 0, 1) := by decide +kernel
theorem dX7_chain_25 : decode cX7_chain 25 = .ok (.getfield 39, 3) := by decide +kernel
theorem dX7_chain_28 : decode cX7_chain 28 = .ok (.getfield 262, 3) := by decide +kernel
theorem dX7_chain_31 : decode cX7_chain 31 = .ok (.ifCond .ne 7, 3) := by decide +kernel
theorem dX7_chain_34 : decode cX7_chain 34 = .ok (.sipush (-1005), 3) := by decide +kernel
theorem dX7_chain_37 : decode cX7_chain 37 = .ok (.ireturn, 1) := by decide +kernel
theorem dX7_chain_38 : decode cX7_chain 38 = .ok (.aload_n 0, 1) := by decide +kernel
theorem dX7_chain_39 : decode cX7_chain 39 = .ok (.getfield 53, 3) := by decide +kernel
theorem dX7_chain_42 : decode cX7_chain 42 = .ok (.aload_n 0, 1) := by decide +kernel
theorem dX7_chain_43 : decode cX7_chain 43 = .ok (.getfield 46, 3) := by decide +kernel
theorem dX7_chain_46 : decode cX7_chain 46 = .ok (.invokevirtual 210, 3) := by decide +kernel
theorem dX7_chain_49 : decode cX7_chain 49 = .ok (.aload_n 0, 1) := by decide +kernel
theorem dX7_chain_50 : decode cX7_chain 50 = .ok (.getfield 46, 3) := by decide +kernel
theorem dX7_chain_53 : decode cX7_chain 53 = .ok (.aload_n 0, 1) := by decide +kernel
theorem dX7_chain_54 : decode cX7_chain 54 = .ok (.getfield 39, 3) := by decide +kernel
theorem dX7_chain_57 : decode cX7_chain 57 = .ok (.getfield 266, 3) := by decide +kernel
theorem dX7_chain_60 : decode cX7_chain 60 = .ok (.invokevirtual 269, 3) := by decide +kernel
theorem dX7_chain_63 : decode cX7_chain 63 = .ok (.bipush 100, 2) := by decide +kernel
theorem dX7_chain_65 : decode cX7_chain 65 = .ok (.aload_n 0, 1) := by decide +kernel
theorem dX7_chain_66 : decode cX7_chain 66 = .ok (.getfield 39, 3) := by decide +kernel
theorem dX7_chain_69 : decode cX7_chain 69 = .ok (.getfield 272, 3) := by decide +kernel
theorem dX7_chain_72 : decode cX7_chain 72 = .ok (.imul, 1) := by decide +kernel
theorem dX7_chain_73 : decode cX7_chain 73 = .ok (.aload_n 0, 1) := by decide +kernel
theorem dX7_chain_74 : decode cX7_chain 74 = .ok (.getfield 39, 3) := by decide +kernel
theorem dX7_chain_77 : decode cX7_chain 77 = .ok (.getfield 275, 3) := by decide +kernel
theorem dX7_chain_80 : decode cX7_chain 80 = .ok (.iadd, 1) := by decide +kernel
theorem dX7_chain_81 : decode cX7_chain 81 = .ok (.ireturn, 1) := by decide +kernel
theorem dX7_improve_0 : decode cX7_improve 0 = .ok (.aload_n 0, 1) := by decide +kernel
theorem dX7_improve_1 : decode cX7_improve 1 = .ok (.getfield 39, 3) := by decide +kernel
theorem dX7_improve_4 : decode cX7_improve 4 = .ok (.aload_n 0, 1) := by decide +kernel
theorem dX7_improve_5 : decode cX7_improve 5 = .ok (.getfield 46, 3) := by decide +kernel
theorem dX7_improve_8 : decode cX7_improve 8 = .ok (.invokevirtual 278, 3) := by decide +kernel
theorem dX7_improve_11 : decode cX7_improve 11 = .ok (.aload_n 0, 1) := by decide +kernel
theorem dX7_improve_12 : decode cX7_improve 12 = .ok (.getfield 39, 3) := by decide +kernel
theorem dX7_improve_15 : decode cX7_improve 15 = .ok (.getfield 262, 3) := by decide +kernel
theorem dX7_improve_18 : decode cX7_improve 18 = .ok (.ifCond .ne 7, 3) := by decide +kernel
theorem dX7_improve_21 : decode cX7_improve 21 = .ok (.sipush (-1007), 3) := by decide +kernel
theorem dX7_improve_24 : decode cX7_improve 24 = .ok (.ireturn, 1) := by decide +kernel
theorem dX7_improve_25 : decode cX7_improve 25 = .ok (.aload_n 0, 1) := by decide +kernel
theorem dX7_improve_26 : decode cX7_improve 26 = .ok (.getfield 53, 3) := by decide +kernel
theorem dX7_improve_29 : decode cX7_improve 29 = .ok (.aload_n 0, 1) := by decide +kernel
theorem dX7_improve_30 : decode cX7_improve 30 = .ok (.getfield 46, 3) := by decide +kernel
theorem dX7_improve_33 : decode cX7_improve 33 = .ok (.invokevirtual 210, 3) := by decide +kernel
theorem dX7_improve_36 : decode cX7_improve 36 = .ok (.aload_n 0, 1) := by decide +kernel
theorem dX7_improve_37 : decode cX7_improve 37 = .ok (.getfield 46, 3) := by decide +kernel
theorem dX7_improve_40 : decode cX7_improve 40 = .ok (.aload_n 0, 1) := by decide +kernel
theorem dX7_improve_41 : decode cX7_improve 41 = .ok (.getfield 39, 3) := by decide +kernel
theorem dX7_improve_44 : decode cX7_improve 44 = .ok (.getfield 266, 3) := by decide +kernel
theorem dX7_improve_47 : decode cX7_improve 47 = .ok (.invokevirtual 269, 3) := by decide +kernel
theorem dX7_improve_50 : decode cX7_improve 50 = .ok (.aload_n 0, 1) := by decide +kernel
theorem dX7_improve_51 : decode cX7_improve 51 = .ok (.getfield 39, 3) := by decide +kernel
theorem dX7_improve_54 : decode cX7_improve 54 = .ok (.getfield 263, 3) := by decide +kernel
theorem dX7_improve_57 : decode cX7_improve 57 = .ok (.ineg, 1) := by decide +kernel
theorem dX7_improve_58 : decode cX7_improve 58 = .ok (.ireturn, 1) := by decide +kernel
theorem dX7_undo_0 : decode cX7_undo 0 = .ok (.aload_n 0, 1) := by decide +kernel
theorem dX7_undo_1 : decode cX7_undo 1 = .ok (.getfield 53, 3) := by decide +kernel
theorem dX7_undo_4 : decode cX7_undo 4 = .ok (.getfield 135, 3) := by decide +kernel
theorem dX7_undo_7 : decode cX7_undo 7 = .ok (.ifCond .ne 7, 3) := by decide +kernel
theorem dX7_undo_10 : decode cX7_undo 10 = .ok (.sipush (-1007), 3) := by decide +kernel
theorem dX7_undo_13 : decode cX7_undo 13 = .ok (.ireturn, 1) := by decide +kernel
theorem dX7_undo_14 : decode cX7_undo 14 = .ok (.aload_n 0, 1) := by decide +kernel
theorem dX7_undo_15 : decode cX7_undo 15 = .ok (.getfield 53, 3) := by decide +kernel
theorem dX7_undo_18 : decode cX7_undo 18 = .ok (.aload_n 0, 1) := by decide +kernel
theorem dX7_undo_19 : decode cX7_undo 19 = .ok (.getfield 46, 3) := by decide +kernel
theorem dX7_undo_22 : decode cX7_undo 22 = .ok (.invokevirtual 281, 3) := by decide +kernel
theorem dX7_undo_25 : decode cX7_undo 25 = .ok (.aload_n 0, 1) := by decide +kernel
theorem dX7_undo_26 : decode cX7_undo 26 = .ok (.getfield 53, 3) := by decide +kernel
theorem dX7_undo_29 : decode cX7_undo 29 = .ok (.getfield 135, 3) := by decide +kernel
theorem dX7_undo_32 : decode cX7_undo 32 = .ok (.ireturn, 1) := by decide +kernel
theorem dX7_isPlace_0 : decode cX7_isPlace 0 = .ok (.iload_n 0, 1) := by decide +kernel
theorem dX7_isPlace_1 : decode cX7_isPlace 1 = .ok (.ifCond .lt 23, 3) := by decide +kernel
theorem dX7_isPlace_4 : decode cX7_isPlace 4 = .ok (.iload_n 0, 1) := by decide +kernel
theorem dX7_isPlace_5 : decode cX7_isPlace 5 = .ok (.bipush 99, 2) := by decide +kernel
theorem dX7_isPlace_7 : decode cX7_isPlace 7 = .ok (.if_icmp .gt 17, 3) := by decide +kernel
theorem dX7_isPlace_10 : decode cX7_isPlace 10 = .ok (.iload_n 1, 1) := by decide +kernel
theorem dX7_isPlace_11 : decode cX7_isPlace 11 = .ok (.ifCond .lt 13, 3) := by decide +kernel
theorem dX7_isPlace_14 : decode cX7_isPlace 14 = .ok (.iload_n 1, 1) := by decide +kernel
theorem dX7_isPlace_15 : decode cX7_isPlace 15 = .ok (.bipush 99, 2) := by decide +kernel
theorem dX7_isPlace_17 : decode cX7_isPlace 17 = .ok (.if_icmp .gt 7, 3) := by decide +kernel
theorem dX7_isPlace_20 : decode cX7_isPlace 20 = .ok (.iconst 1, 1) := by decide +kernel
theorem dX7_isPlace_21 : decode cX7_isPlace 21 = .ok (.goto 4, 3) := by decide +kernel
theorem dX7_isPlace_24 : decode cX7_isPlace 24 = .ok (.iconst 0, 1) := by decide +kernel
theorem dX7_isPlace_25 : decode cX7_isPlace 25 = .ok (.ireturn, 1) := by decide +kernel
theorem dX7_isLoad_0 : decode cX7_isLoad 0 = .ok (.iload_n 0, 1) := by decide +kernel
theorem dX7_isLoad_1 : decode cX7_isLoad 1 = .ok (.iconst 1, 1) := by decide +kernel
theorem dX7_isLoad_2 : decode cX7_isLoad 2 = .ok (.if_icmp .lt 13, 3) := by decide +kernel
theorem dX7_isLoad_5 : decode cX7_isLoad 5 = .ok (.iload_n 0, 1) := by decide +kernel
theorem dX7_isLoad_6 : decode cX7_isLoad 6 = .ok (.bipush 8, 2) := by decide +kernel
theorem dX7_isLoad_8 : decode cX7_isLoad 8 = .ok (.if_icmp .gt 7, 3) := by decide +kernel
theorem dX7_isLoad_11 : decode cX7_isLoad 11 = .ok (.iconst 1, 1) := by decide +kernel
theorem dX7_isLoad_12 : decode cX7_isLoad 12 = .ok (.goto 4, 3) := by decide +kernel
theorem dX7_isLoad_15 : decode cX7_isLoad 15 = .ok (.iconst 0, 1) := by decide +kernel
theorem dX7_isLoad_16 : decode cX7_isLoad 16 = .ok (.ireturn, 1) := by decide +kernel
theorem dX7_isLimit_0 : decode cX7_isLimit 0 = .ok (.iload_n 0, 1) := by decide +kernel
theorem dX7_isLimit_1 : decode cX7_isLimit 1 = .ok (.ifCond .lt 14, 3) := by decide +kernel
theorem dX7_isLimit_4 : decode cX7_isLimit 4 = .ok (.iload_n 0, 1) := by decide +kernel
theorem dX7_isLimit_5 : decode cX7_isLimit 5 = .ok (.sipush 1000, 3) := by decide +kernel
theorem dX7_isLimit_8 : decode cX7_isLimit 8 = .ok (.if_icmp .gt 7, 3) := by decide +kernel
theorem dX7_isLimit_11 : decode cX7_isLimit 11 = .ok (.iconst 1, 1) := by decide +kernel
theorem dX7_isLimit_12 : decode cX7_isLimit 12 = .ok (.goto 4, 3) := by decide +kernel
theorem dX7_isLimit_15 : decode cX7_isLimit 15 = .ok (.iconst 0, 1) := by decide +kernel
theorem dX7_isLimit_16 : decode cX7_isLimit 16 = .ok (.ireturn, 1) := by decide +kernel
theorem dX7_isWindow_0 : decode cX7_isWindow 0 = .ok (.iload_n 0, 1) := by decide +kernel
theorem dX7_isWindow_1 : decode cX7_isWindow 1 = .ok (.ifCond .lt 19, 3) := by decide +kernel
theorem dX7_isWindow_4 : decode cX7_isWindow 4 = .ok (.iload_n 0, 1) := by decide +kernel
theorem dX7_isWindow_5 : decode cX7_isWindow 5 = .ok (.iload_n 1, 1) := by decide +kernel
theorem dX7_isWindow_6 : decode cX7_isWindow 6 = .ok (.if_icmp .gt 14, 3) := by decide +kernel
theorem dX7_isWindow_9 : decode cX7_isWindow 9 = .ok (.iload_n 1, 1) := by decide +kernel
theorem dX7_isWindow_10 : decode cX7_isWindow 10 = .ok (.sipush 5000, 3) := by decide +kernel
theorem dX7_isWindow_13 : decode cX7_isWindow 13 = .ok (.if_icmp .gt 7, 3) := by decide +kernel
theorem dX7_isWindow_16 : decode cX7_isWindow 16 = .ok (.iconst 1, 1) := by decide +kernel
theorem dX7_isWindow_17 : decode cX7_isWindow 17 = .ok (.goto 4, 3) := by decide +kernel
theorem dX7_isWindow_20 : decode cX7_isWindow 20 = .ok (.iconst 0, 1) := by decide +kernel
theorem dX7_isWindow_21 : decode cX7_isWindow 21 = .ok (.ireturn, 1) := by decide +kernel
theorem dX7_isVehicle_0 : decode cX7_isVehicle 0 = .ok (.iload_n 1, 1) := by decide +kernel
theorem dX7_isVehicle_1 : decode cX7_isVehicle 1 = .ok (.ifCond .lt 18, 3) := by decide +kernel
theorem dX7_isVehicle_4 : decode cX7_isVehicle 4 = .ok (.iload_n 1, 1) := by decide +kernel
theorem dX7_isVehicle_5 : decode cX7_isVehicle 5 = .ok (.aload_n 0, 1) := by decide +kernel
theorem dX7_isVehicle_6 : decode cX7_isVehicle 6 = .ok (.getfield 22, 3) := by decide +kernel
theorem dX7_isVehicle_9 : decode cX7_isVehicle 9 = .ok (.getfield 68, 3) := by decide +kernel
theorem dX7_isVehicle_12 : decode cX7_isVehicle 12 = .ok (.if_icmp .ge 7, 3) := by decide +kernel
theorem dX7_isVehicle_15 : decode cX7_isVehicle 15 = .ok (.iconst 1, 1) := by decide +kernel
theorem dX7_isVehicle_16 : decode cX7_isVehicle 16 = .ok (.goto 4, 3) := by decide +kernel
theorem dX7_isVehicle_19 : decode cX7_isVehicle 19 = .ok (.iconst 0, 1) := by decide +kernel
theorem dX7_isVehicle_20 : decode cX7_isVehicle 20 = .ok (.ireturn, 1) := by decide +kernel
theorem dX7_isRequest_0 : decode cX7_isRequest 0 = .ok (.iload_n 1, 1) := by decide +kernel
theorem dX7_isRequest_1 : decode cX7_isRequest 1 = .ok (.ifCond .lt 18, 3) := by decide +kernel
theorem dX7_isRequest_4 : decode cX7_isRequest 4 = .ok (.iload_n 1, 1) := by decide +kernel
theorem dX7_isRequest_5 : decode cX7_isRequest 5 = .ok (.aload_n 0, 1) := by decide +kernel
theorem dX7_isRequest_6 : decode cX7_isRequest 6 = .ok (.getfield 22, 3) := by decide +kernel
theorem dX7_isRequest_9 : decode cX7_isRequest 9 = .ok (.getfield 92, 3) := by decide +kernel
theorem dX7_isRequest_12 : decode cX7_isRequest 12 = .ok (.if_icmp .ge 7, 3) := by decide +kernel
theorem dX7_isRequest_15 : decode cX7_isRequest 15 = .ok (.iconst 1, 1) := by decide +kernel
theorem dX7_isRequest_16 : decode cX7_isRequest 16 = .ok (.goto 4, 3) := by decide +kernel
theorem dX7_isRequest_19 : decode cX7_isRequest 19 = .ok (.iconst 0, 1) := by decide +kernel
theorem dX7_isRequest_20 : decode cX7_isRequest 20 = .ok (.ireturn, 1) := by decide +kernel
theorem dX7_isOpen_0 : decode cX7_isOpen 0 = .ok (.aload_n 0, 1) := by decide +kernel
theorem dX7_isOpen_1 : decode cX7_isOpen 1 = .ok (.getfield 46, 3) := by decide +kernel
theorem dX7_isOpen_4 : decode cX7_isOpen 4 = .ok (.getfield 141, 3) := by decide +kernel
theorem dX7_isOpen_7 : decode cX7_isOpen 7 = .ok (.iload_n 1, 1) := by decide +kernel
theorem dX7_isOpen_8 : decode cX7_isOpen 8 = .ok (.iaload, 1) := by decide +kernel
theorem dX7_isOpen_9 : decode cX7_isOpen 9 = .ok (.iconst (-1), 1) := by decide +kernel
theorem dX7_isOpen_10 : decode cX7_isOpen 10 = .ok (.if_icmp .ne 7, 3) := by decide +kernel
theorem dX7_isOpen_13 : decode cX7_isOpen 13 = .ok (.iconst 1, 1) := by decide +kernel
theorem dX7_isOpen_14 : decode cX7_isOpen 14 = .ok (.goto 4, 3) := by decide +kernel
theorem dX7_isOpen_17 : decode cX7_isOpen 17 = .ok (.iconst 0, 1) := by decide +kernel
theorem dX7_isOpen_18 : decode cX7_isOpen 18 = .ok (.ireturn, 1) := by decide +kernel
theorem dX7_openRequests_0 : decode cX7_openRequests 0 = .ok (.iconst 0, 1) := by decide +kernel
theorem dX7_openRequests_1 : decode cX7_openRequests 1 = .ok (.istore_n 1, 1) := by decide +kernel
theorem dX7_openRequests_2 : decode cX7_openRequests 2 = .ok (.iconst 0, 1) := by decide +kernel
theorem dX7_openRequests_3 : decode cX7_openRequests 3 = .ok (.istore_n 2, 1) := by decide +kernel
theorem dX7_openRequests_4 : decode cX7_openRequests 4 = .ok (.iload_n 2, 1) := by decide +kernel
theorem dX7_openRequests_5 : decode cX7_openRequests 5 = .ok (.aload_n 0, 1) := by decide +kernel
theorem dX7_openRequests_6 : decode cX7_openRequests 6 = .ok (.getfield 22, 3) := by decide +kernel
theorem dX7_openRequests_9 : decode cX7_openRequests 9 = .ok (.getfield 92, 3) := by decide +kernel
theorem dX7_openRequests_12 : decode cX7_openRequests 12 = .ok (.if_icmp .ge 20, 3) := by decide +kernel
theorem dX7_openRequests_15 : decode cX7_openRequests 15 = .ok (.aload_n 0, 1) := by decide +kernel
theorem dX7_openRequests_16 : decode cX7_openRequests 16 = .ok (.iload_n 2, 1) := by decide +kernel
theorem dX7_openRequests_17 : decode cX7_openRequests 17 = .ok (.invokevirtual 138, 3) := by decide +kernel
theorem dX7_openRequests_20 : decode cX7_openRequests 20 = .ok (.ifCond .eq 6, 3) := by decide +kernel
theorem dX7_openRequests_23 : decode cX7_openRequests 23 = .ok (.iinc 1 1, 3) := by decide +kernel
theorem dX7_openRequests_26 : decode cX7_openRequests 26 = .ok (.iinc 2 1, 3) := by decide +kernel
theorem dX7_openRequests_29 : decode cX7_openRequests 29 = .ok (.goto (-25), 3) := by decide +kernel
theorem dX7_openRequests_32 : decode cX7_openRequests 32 = .ok (.iload_n 1, 1) := by decide +kernel
theorem dX7_openRequests_33 : decode cX7_openRequests 33 = .ok (.ireturn, 1) := by decide +kernel
theorem dX7_routeStillFits_0 : decode cX7_routeStillFits 0 = .ok (.aload_n 0, 1) := by decide +kernel
theorem dX7_routeStillFits_1 : decode cX7_routeStillFits 1 = .ok (.iload_n 1, 1) := by decide +kernel
theorem dX7_routeStillFits_2 : decode cX7_routeStillFits 2 = .ok (.invokevirtual 138, 3) := by decide +kernel
theorem dX7_routeStillFits_5 : decode cX7_routeStillFits 5 = .ok (.ifCond .ne 30, 3) := by decide +kernel
theorem dX7_routeStillFits_8 : decode cX7_routeStillFits 8 = .ok (.aload_n 0, 1) := by decide +kernel
theorem dX7_routeStillFits_9 : decode cX7_routeStillFits 9 = .ok (.getfield 26, 3) := by decide +kernel
theorem dX7_routeStillFits_12 : decode cX7_routeStillFits 12 = .ok (.aload_n 0, 1) := by decide +kernel
theorem dX7_routeStillFits_13 : decode cX7_routeStillFits 13 = .ok (.getfield 46, 3) := by decide +kernel
theorem dX7_routeStillFits_16 : decode cX7_routeStillFits 16 = .ok (.getfield 151, 3) := by decide +kernel
theorem dX7_routeStillFits_19 : decode cX7_routeStillFits 19 = .ok (.aload_n 0, 1) := by decide +kernel
theorem dX7_routeStillFits_20 : decode cX7_routeStillFits 20 = .ok (.getfield 46, 3) := by decide +kernel
theorem dX7_routeStillFits_23 : decode cX7_routeStillFits 23 = .ok (.getfield 141, 3) := by decide +kernel
theorem dX7_routeStillFits_26 : decode cX7_routeStillFits 26 = .ok (.iload_n 1, 1) := by decide +kernel
theorem dX7_routeStillFits_27 : decode cX7_routeStillFits 27 = .ok (.iaload, 1) := by decide +kernel
theorem dX7_routeStillFits_28 : decode cX7_routeStillFits 28 = .ok (.aaload, 1) := by decide +kernel
theorem dX7_routeStillFits_29 : decode cX7_routeStillFits 29 = .ok (.invokevirtual 176, 3) := by decide +kernel
theorem dX7_routeStillFits_32 : decode cX7_routeStillFits 32 = .ok (.ifCond .eq 7, 3) := by decide +kernel
theorem dX7_routeStillFits_35 : decode cX7_routeStillFits 35 = .ok (.iconst 1, 1) := by decide +kernel
theorem dX7_routeStillFits_36 : decode cX7_routeStillFits 36 = .ok (.goto 4, 3) := by decide +kernel
theorem dX7_routeStillFits_39 : decode cX7_routeStillFits 39 = .ok (.iconst 0, 1) := by decide +kernel
theorem dX7_routeStillFits_40 : decode cX7_routeStillFits 40 = .ok (.ireturn, 1) := by decide +kernel
theorem dX7_allRoutesStillFit_0 : decode cX7_allRoutesStillFit 0 = .ok (.iconst 0, 1) := by decide +kernel
theorem dX7_allRoutesStillFit_1 : decode cX7_allRoutesStillFit 1 = .ok (.istore_n 1, 1) := by decide +kernel
theorem dX7_allRoutesStillFit_2 : decode cX7_allRoutesStillFit 2 = .ok (.iload_n 1, 1) := by decide +kernel
theorem dX7_allRoutesStillFit_3 : decode cX7_allRoutesStillFit 3 = .ok (.aload_n 0, 1) := by decide +kernel
theorem dX7_allRoutesStillFit_4 : decode cX7_allRoutesStillFit 4 = .ok (.getfield 22, 3) := by decide +kernel
theorem dX7_allRoutesStillFit_7 : decode cX7_allRoutesStillFit 7 = .ok (.getfield 68, 3) := by decide +kernel
theorem dX7_allRoutesStillFit_10 : decode cX7_allRoutesStillFit 10 = .ok (.if_icmp .ge 30, 3) := by decide +kernel
theorem dX7_allRoutesStillFit_13 : decode cX7_allRoutesStillFit 13 = .ok (.aload_n 0, 1) := by decide +kernel
theorem dX7_allRoutesStillFit_14 : decode cX7_allRoutesStillFit 14 = .ok (.getfield 26, 3) := by decide +kernel
theorem dX7_allRoutesStillFit_17 : decode cX7_allRoutesStillFit 17 = .ok (.aload_n 0, 1) := by decide +kernel
theorem dX7_allRoutesStillFit_18 : decode cX7_allRoutesStillFit 18 = .ok (.getfield 46, 3) := by decide +kernel
theorem dX7_allRoutesStillFit_21 : decode cX7_allRoutesStillFit 21 = .ok (.getfield 151, 3) := by decide +kernel
theorem dX7_allRoutesStillFit_24 : decode cX7_allRoutesStillFit 24 = .ok (.iload_n 1, 1) := by decide +kernel
theorem dX7_allRoutesStillFit_25 : decode cX7_allRoutesStillFit 25 = .ok (.aaload, 1) := by decide +kernel
theorem dX7_allRoutesStillFit_26 : decode cX7_allRoutesStillFit 26 = .ok (.invokevirtual 176, 3) := by decide +kernel
theorem dX7_allRoutesStillFit_29 : decode cX7_allRoutesStillFit 29 = .ok (.ifCond .ne 5, 3) := by decide +kernel
theorem dX7_allRoutesStillFit_32 : decode cX7_allRoutesStillFit 32 = .ok (.iconst 0, 1) := by decide +kernel
theorem dX7_allRoutesStillFit_33 : decode cX7_allRoutesStillFit 33 = .ok (.ireturn, 1) := by decide +kernel
theorem dX7_allRoutesStillFit_34 : decode cX7_allRoutesStillFit 34 = .ok (.iinc 1 1, 3) := by decide +kernel
theorem dX7_allRoutesStillFit_37 : decode cX7_allRoutesStillFit 37 = .ok (.goto (-35), 3) := by decide +kernel
theorem dX7_allRoutesStillFit_40 : decode cX7_allRoutesStillFit 40 = .ok (.iconst 1, 1) := by decide +kernel
theorem dX7_allRoutesStillFit_41 : decode cX7_allRoutesStillFit 41 = .ok (.ireturn, 1) := by decide +kernel
theorem dX7_openRequestError_0 : decode cX7_openRequestError 0 = .ok (.aload_n 0, 1) := by decide +kernel
theorem dX7_openRequestError_1 : decode cX7_openRequestError 1 = .ok (.iload_n 1, 1) := by decide +kernel
theorem dX7_openRequestError_2 : decode cX7_openRequestError 2 = .ok (.invokevirtual 105, 3) := by decide +kernel
theorem dX7_openRequestError_5 : decode cX7_openRequestError 5 = .ok (.ifCond .ne 7, 3) := by decide +kernel
theorem dX7_openRequestError_8 : decode cX7_openRequestError 8 = .ok (.sipush (-1001), 3) := by decide +kernel
theorem dX7_openRequestError_11 : decode cX7_openRequestError 11 = .ok (.ireturn, 1) := by decide +kernel
theorem dX7_openRequestError_12 : decode cX7_openRequestError 12 = .ok (.aload_n 0, 1) := by decide +kernel
theorem dX7_openRequestError_13 : decode cX7_openRequestError 13 = .ok (.iload_n 1, 1) := by decide +kernel
theorem dX7_openRequestError_14 : decode cX7_openRequestError 14 = .ok (.invokevirtual 138, 3) := by decide +kernel
theorem dX7_openRequestError_17 : decode cX7_openRequestError 17 = .ok (.ifCond .eq 7, 3) := by decide +kernel
theorem dX7_openRequestError_20 : decode cX7_openRequestError 20 = .ok (.iconst 0, 1) := by decide +kernel
theorem dX7_openRequestError_21 : decode cX7_openRequestError 21 = .ok (.goto 6, 3) := by decide +kernel
theorem dX7_openRequestError_24 : decode cX7_openRequestError 24 = .ok (.sipush (-1003), 3) := by decide +kernel
theorem dX7_openRequestError_27 : decode cX7_openRequestError 27 = .ok (.ireturn, 1) := by decide +kernel
theorem dX7_openRequestError__0 : decode cX7_openRequestError_ 0 = .ok (.aload_n 0, 1) := by decide +kernel
theorem dX7_openRequestError__1 : decode cX7_openRequestError_ 1 = .ok (.iload_n 2, 1) := by decide +kernel
theorem dX7_openRequestError__2 : decode cX7_openRequestError_ 2 = .ok (.invokevirtual 148, 3) := by decide +kernel
theorem dX7_openRequestError__5 : decode cX7_openRequestError_ 5 = .ok (.ifCond .eq 11, 3) := by decide +kernel
theorem dX7_openRequestError__8 : decode cX7_openRequestError_ 8 = .ok (.aload_n 0, 1) := by decide +kernel
theorem dX7_openRequestError__9 : decode cX7_openRequestError_ 9 = .ok (.iload_n 1, 1) := by decide +kernel
theorem dX7_openRequestError__10 : decode cX7_openRequestError_ 10 = .ok (.invokevirtual 245, 3) := by decide +kernel
theorem dX7_openRequestError__13 : decode cX7_openRequestError_ 13 = .ok (.goto 6, 3) := by decide +kernel
theorem dX7_openRequestError__16 : decode cX7_openRequestError_ 16 = .ok (.sipush (-1001), 3) := by decide +kernel
theorem dX7_openRequestError__19 : decode cX7_openRequestError_ 19 = .ok (.ireturn, 1) := by decide +kernel
theorem dX7_insertionError_0 : decode cX7_insertionError 0 = .ok (.aload_n 0, 1) := by decide +kernel
theorem dX7_insertionError_1 : decode cX7_insertionError 1 = .ok (.iload_n 1, 1) := by decide +kernel
theorem dX7_insertionError_2 : decode cX7_insertionError 2 = .ok (.invokevirtual 105, 3) := by decide +kernel
theorem dX7_insertionError_5 : decode cX7_insertionError 5 = .ok (.ifCond .eq 11, 3) := by decide +kernel
theorem dX7_insertionError_8 : decode cX7_insertionError 8 = .ok (.aload_n 0, 1) := by decide +kernel
theorem dX7_insertionError_9 : decode cX7_insertionError 9 = .ok (.iload_n 2, 1) := by decide +kernel
theorem dX7_insertionError_10 : decode cX7_insertionError 10 = .ok (.invokevirtual 148, 3) := by decide +kernel
theorem dX7_insertionError_13 : decode cX7_insertionError 13 = .ok (.ifCond .ne 7, 3) := by decide +kernel
theorem dX7_insertionError_16 : decode cX7_insertionError 16 = .ok (.sipush (-1001), 3) := by decide +kernel
theorem dX7_insertionError_19 : decode cX7_insertionError 19 = .ok (.ireturn, 1) := by decide +kernel
theorem dX7_insertionError_20 : decode cX7_insertionError 20 = .ok (.aload_n 0, 1) := by decide +kernel
theorem dX7_insertionError_21 : decode cX7_insertionError 21 = .ok (.getfield 46, 3) := by decide +kernel
theorem dX7_insertionError_24 : decode cX7_insertionError 24 = .ok (.getfield 151, 3) := by decide +kernel
theorem dX7_insertionError_27 : decode cX7_insertionError 27 = .ok (.iload_n 2, 1) := by decide +kernel
theorem dX7_insertionError_28 : decode cX7_insertionError 28 = .ok (.aaload, 1) := by decide +kernel
theorem dX7_insertionError_29 : decode cX7_insertionError 29 = .ok (.astore 5, 2) := by decide +kernel
theorem dX7_insertionError_31 : decode cX7_insertionError 31 = .ok (.iload_n 3, 1) := by decide +kernel
theorem dX7_insertionError_32 : decode cX7_insertionError 32 = .ok (.ifCond .lt 21, 3) := by decide +kernel
theorem dX7_insertionError_35 : decode cX7_insertionError 35 = .ok (.iload 4, 2) := by decide +kernel
theorem dX7_insertionError_37 : decode cX7_insertionError 37 = .ok (.iload_n 3, 1) := by decide +kernel
theorem dX7_insertionError_38 : decode cX7_insertionError 38 = .ok (.if_icmp .le 15, 3) := by decide +kernel
theorem dX7_insertionError_41 : decode cX7_insertionError 41 = .ok (.iload 4, 2) := by decide +kernel
theorem dX7_insertionError_43 : decode cX7_insertionError 43 = .ok (.aload 5, 2) := by decide +kernel
theorem dX7_insertionError_45 : decode cX7_insertionError 45 = .ok (.getfield 155, 3) := by decide +kernel
theorem dX7_insertionError_48 : decode cX7_insertionError 48 = .ok (.iconst 1, 1) := by decide +kernel
theorem dX7_insertionError_49 : decode cX7_insertionError 49 = .ok (.iadd, 1) := by decide +kernel
theorem dX7_insertionError_50 : decode cX7_insertionError 50 = .ok (.if_icmp .le 7, 3) := by decide +kernel
theorem dX7_insertionError_53 : decode cX7_insertionError 53 = .ok (.sipush (-1002), 3) := by decide +kernel
theorem dX7_insertionError_56 : decode cX7_insertionError 56 = .ok (.ireturn, 1) := by decide +kernel
theorem dX7_insertionError_57 : decode cX7_insertionError 57 = .ok (.aload_n 0, 1) := by decide +kernel
theorem dX7_insertionError_58 : decode cX7_insertionError 58 = .ok (.iload_n 1, 1) := by decide +kernel
theorem dX7_insertionError_59 : decode cX7_insertionError 59 = .ok (.invokevirtual 138, 3) := by decide +kernel
theorem dX7_insertionError_62 : decode cX7_insertionError 62 = .ok (.ifCond .ne 7, 3) := by decide +kernel
theorem dX7_insertionError_65 : decode cX7_insertionError 65 = .ok (.sipush (-1003), 3) := by decide +kernel
theorem dX7_insertionError_68 : decode cX7_insertionError 68 = .ok (.ireturn, 1) := by decide +kernel
theorem dX7_insertionError_69 : decode cX7_insertionError 69 = .ok (.aload_n 0, 1) := by decide +kernel
theorem dX7_insertionError_70 : decode cX7_insertionError 70 = .ok (.getfield 26, 3) := by decide +kernel
theorem dX7_insertionError_73 : decode cX7_insertionError 73 = .ok (.aload_n 0, 1) := by decide +kernel
theorem dX7_insertionError_74 : decode cX7_insertionError 74 = .ok (.getfield 30, 3) := by decide +kernel
theorem dX7_insertionError_77 : decode cX7_insertionError 77 = .ok (.aload 5, 2) := by decide +kernel
theorem dX7_insertionError_79 : decode cX7_insertionError 79 = .ok (.iload_n 1, 1) := by decide +kernel
theorem dX7_insertionError_80 : decode cX7_insertionError 80 = .ok (.iload_n 3, 1) := by decide +kernel
theorem dX7_insertionError_81 : decode cX7_insertionError 81 = .ok (.iload 4, 2) := by decide +kernel
theorem dX7_insertionError_83 : decode cX7_insertionError 83 = .ok (.invokevirtual 284, 3) := by decide +kernel
theorem dX7_insertionError_86 : decode cX7_insertionError 86 = .ok (.invokevirtual 176, 3) := by decide +kernel
theorem dX7_insertionError_89 : decode cX7_insertionError 89 = .ok (.ifCond .eq 7, 3) := by decide +kernel
theorem dX7_insertionError_92 : decode cX7_insertionError 92 = .ok (.iconst 0, 1) := by decide +kernel
theorem dX7_insertionError_93 : decode cX7_insertionError 93 = .ok (.goto 6, 3) := by decide +kernel
theorem dX7_insertionError_96 : decode cX7_insertionError 96 = .ok (.sipush (-1005), 3) := by decide +kernel
theorem dX7_insertionError_99 : decode cX7_insertionError 99 = .ok (.ireturn, 1) := by decide +kernel
theorem dX7_carryOutInsertion_0 : decode cX7_carryOutInsertion 0 = .ok (.aload_n 0, 1) := by decide +kernel
theorem dX7_carryOutInsertion_1 : decode cX7_carryOutInsertion 1 = .ok (.getfield 30, 3) := by decide +kernel
theorem dX7_carryOutInsertion_4 : decode cX7_carryOutInsertion 4 = .ok (.getfield 229, 3) := by decide +kernel
theorem dX7_carryOutInsertion_7 : decode cX7_carryOutInsertion 7 = .ok (.ifCond .ne 5, 3) := by decide +kernel
theorem dX7_carryOutInsertion_10 : decode cX7_carryOutInsertion 10 = .ok (.iconst 0, 1) := by decide +kernel
theorem dX7_carryOutInsertion_11 : decode cX7_carryOutInsertion 11 = .ok (.ireturn, 1) := by decide +kernel
theorem dX7_carryOutInsertion_12 : decode cX7_carryOutInsertion 12 = .ok (.aload_n 0, 1) := by decide +kernel
theorem dX7_carryOutInsertion_13 : decode cX7_carryOutInsertion 13 = .ok (.getfield 53, 3) := by decide +kernel
theorem dX7_carryOutInsertion_16 : decode cX7_carryOutInsertion 16 = .ok (.aload_n 0, 1) := by decide +kernel
theorem dX7_carryOutInsertion_17 : decode cX7_carryOutInsertion 17 = .ok (.getfield 46, 3) := by decide +kernel
theorem dX7_carryOutInsertion_20 : decode cX7_carryOutInsertion 20 = .ok (.invokevirtual 210, 3) := by decide +kernel
theorem dX7_carryOutInsertion_23 : decode cX7_carryOutInsertion 23 = .ok (.aload_n 0, 1) := by decide +kernel
theorem dX7_carryOutInsertion_24 : decode cX7_carryOutInsertion 24 = .ok (.getfield 30, 3) := by decide +kernel
theorem dX7_carryOutInsertion_27 : decode cX7_carryOutInsertion 27 = .ok (.aload_n 0, 1) := by decide +kernel
theorem dX7_carryOutInsertion_28 : decode cX7_carryOutInsertion 28 = .ok (.getfield 46, 3) := by decide +kernel
theorem dX7_carryOutInsertion_31 : decode cX7_carryOutInsertion 31 = .ok (.iload_n 1, 1) := by decide +kernel
theorem dX7_carryOutInsertion_32 : decode cX7_carryOutInsertion 32 = .ok (.invokevirtual 288, 3) := by decide +kernel
theorem dX7_carryOutInsertion_35 : decode cX7_carryOutInsertion 35 = .ok (.ireturn, 1) := by decide +kernel
