theorem dX8_init_0 : decode cX8_init 0 = .ok (.aload_n 0, 1) := by decide +kernel
theorem dX8_init_1 : decode cX8_init 1 = .ok (.invokespecial 1, 3) := by decide +kernel
theorem dX8_init_4 : decode cX8_init 4 = .ok (.aload_n 0, 1) := by decide +kernel
theorem dX8_init_5 : decode cX8_init 5 = .ok (.iconst 4, 1) := by decide +kernel
theorem dX8_init_6 : decode cX8_init 6 = .ok (.newarray .int, 2) := by decide +kernel
theorem dX8_init_8 : decode cX8_init 8 = .ok (.putfield 7, 3) := by decide +kernel
theorem dX8_init_11 : decode cX8_init 11 = .ok (.aload_n 0, 1) := by decide +kernel
theorem dX8_init_12 : decode cX8_init 12 = .ok (.iconst 4, 1) := by decide +kernel
theorem dX8_init_13 : decode cX8_init 13 = .ok (.newarray .int, 2) := by decide +kernel
theorem dX8_init_15 : decode cX8_init 15 = .ok (.putfield 13, 3) := by decide +kernel
theorem dX8_init_18 : decode cX8_init 18 = .ok (.aload_n 0, 1) := by decide +kernel
theorem dX8_init_19 : decode cX8_init 19 = .ok (.iconst 4, 1) := by decide +kernel
theorem dX8_init_20 : decode cX8_init 20 = .ok (.newarray .int, 2) := by decide +kernel
theorem dX8_init_22 : decode cX8_init 22 = .ok (.putfield 16, 3) := by decide +kernel
theorem dX8_init_25 : decode cX8_init 25 = .ok (.aload_n 0, 1) := by decide +kernel
theorem dX8_init_26 : decode cX8_init 26 = .ok (.iconst 4, 1) := by decide +kernel
theorem dX8_init_27 : decode cX8_init 27 = .ok (.newarray .int, 2) := by decide +kernel
theorem dX8_init_29 : decode cX8_init 29 = .ok (.putfield 19, 3) := by decide +kernel
theorem dX8_init_32 : decode cX8_init 32 = .ok (.aload_n 0, 1) := by decide +kernel
theorem dX8_init_33 : decode cX8_init 33 = .ok (.iconst 4, 1) := by decide +kernel
theorem dX8_init_34 : decode cX8_init 34 = .ok (.newarray .int, 2) := by decide +kernel
theorem dX8_init_36 : decode cX8_init 36 = .ok (.putfield 22, 3) := by decide +kernel
theorem dX8_init_39 : decode cX8_init 39 = .ok (.aload_n 0, 1) := by decide +kernel
theorem dX8_init_40 : decode cX8_init 40 = .ok (.bipush 24, 2) := by decide +kernel
theorem dX8_init_42 : decode cX8_init 42 = .ok (.newarray .int, 2) := by decide +kernel
theorem dX8_init_44 : decode cX8_init 44 = .ok (.putfield 25, 3) := by decide +kernel
theorem dX8_init_47 : decode cX8_init 47 = .ok (.aload_n 0, 1) := by decide +kernel
theorem dX8_init_48 : decode cX8_init 48 = .ok (.bipush 24, 2) := by decide +kernel
theorem dX8_init_50 : decode cX8_init 50 = .ok (.newarray .int, 2) := by decide +kernel
theorem dX8_init_52 : decode cX8_init 52 = .ok (.putfield 28, 3) := by decide +kernel
theorem dX8_init_55 : decode cX8_init 55 = .ok (.aload_n 0, 1) := by decide +kernel
theorem dX8_init_56 : decode cX8_init 56 = .ok (.bipush 24, 2) := by decide +kernel
theorem dX8_init_58 : decode cX8_init 58 = .ok (.newarray .int, 2) := by decide +kernel
theorem dX8_init_60 : decode cX8_init 60 = .ok (.putfield 31, 3) := by decide +kernel
theorem dX8_init_63 : decode cX8_init 63 = .ok (.aload_n 0, 1) := by decide +kernel
theorem dX8_init_64 : decode cX8_init 64 = .ok (.bipush 24, 2) := by decide +kernel
theorem dX8_init_66 : decode cX8_init 66 = .ok (.newarray .int, 2) := by decide +kernel
theorem dX8_init_68 : decode cX8_init 68 = .ok (.putfield 34, 3) := by decide +kernel
theorem dX8_init_71 : decode cX8_init 71 = .ok (.aload_n 0, 1) := by decide +kernel
theorem dX8_init_72 : decode cX8_init 72 = .ok (.bipush 12, 2) := by decide +kernel
theorem dX8_init_74 : decode cX8_init 74 = .ok (.newarray .int, 2) := by decide +kernel
theorem dX8_init_76 : decode cX8_init 76 = .ok (.putfield 37, 3) := by decide +kernel
theorem dX8_init_79 : decode cX8_init 79 = .ok (.aload_n 0, 1) := by decide +kernel
theorem dX8_init_80 : decode cX8_init 80 = .ok (.bipush 12, 2) := by decide +kernel
theorem dX8_init_82 : decode cX8_init 82 = .ok (.newarray .int, 2) := by decide +kernel
theorem dX8_init_84 : decode cX8_init 84 = .ok (.putfield 40, 3) := by decide +kernel
theorem dX8_init_87 : decode cX8_init 87 = .ok (.aload_n 0, 1) := by decide +kernel
theorem dX8_init_88 : decode cX8_init 88 = .ok (.bipush 100, 2) := by decide +kernel
theorem dX8_init_90 : decode cX8_init 90 = .ok (.newarray .int, 2) := by decide +kernel
theorem dX8_init_92 : decode cX8_init 92 = .ok (.putfield 43, 3) := by decide +kernel
theorem dX8_init_95 : decode cX8_init 95 = .ok (.aload_n 0, 1) := by decide +kernel
theorem dX8_init_96 : decode cX8_init 96 = .ok (.bipush 26, 2) := by decide +kernel
theorem dX8_init_98 : decode cX8_init 98 = .ok (.newarray .int, 2) := by decide +kernel
theorem dX8_init_100 : decode cX8_init 100 = .ok (.putfield 46, 3) := by decide +kernel
theorem dX8_init_103 : decode cX8_init 103 = .ok (.aload_n 0, 1) := by decide +kernel
theorem dX8_init_104 : decode cX8_init 104 = .ok (.bipush 26, 2) := by decide +kernel
theorem dX8_init_106 : decode cX8_init 106 = .ok (.newarray .int, 2) := by decide +kernel
theorem dX8_init_108 : decode cX8_init 108 = .ok (.putfield 49, 3) := by decide +kernel
theorem dX8_init_111 : decode cX8_init 111 = .ok (.aload_n 0, 1) := by decide +kernel
theorem dX8_init_112 : decode cX8_init 112 = .ok (.bipush 26, 2) := by decide +kernel
theorem dX8_init_114 : decode cX8_init 114 = .ok (.newarray .int, 2) := by decide +kernel
theorem dX8_init_116 : decode cX8_init 116 = .ok (.putfield 52, 3) := by decide +kernel
theorem dX8_init_119 : decode cX8_init 119 = .ok (.aload_n 0, 1) := by decide +kernel
theorem dX8_init_120 : decode cX8_init 120 = .ok (.sipush 1000, 3) := by decide +kernel
theorem dX8_init_123 : decode cX8_init 123 = .ok (.newarray .int, 2) := by decide +kernel
theorem dX8_init_125 : decode cX8_init 125 = .ok (.putfield 55, 3) := by decide +kernel
theorem dX8_init_128 : decode cX8_init 128 = .ok (.aload_n 0, 1) := by decide +kernel
theorem dX8_init_129 : decode cX8_init 129 = .ok (.bipush 100, 2) := by decide +kernel
theorem dX8_init_131 : decode cX8_init 131 = .ok (.newarray .int, 2) := by decide +kernel
theorem dX8_init_133 : decode cX8_init 133 = .ok (.putfield 58, 3) := by decide +kernel
theorem dX8_init_136 : decode cX8_init 136 = .ok (.aload_n 0, 1) := by decide +kernel
theorem dX8_init_137 : decode cX8_init 137 = .ok (.iconst 1, 1) := by decide +kernel
theorem dX8_init_138 : decode cX8_init 138 = .ok (.putfield 61, 3) := by decide +kernel
theorem dX8_init_141 : decode cX8_init 141 = .ok (.return_, 1) := by decide +kernel
theorem dX8_in_0 : decode cX8_in 0 = .ok (.iload_n 0, 1) := by decide +kernel
theorem dX8_in_1 : decode cX8_in 1 = .ok (.iload_n 1, 1) := by decide +kernel
theorem dX8_in_2 : decode cX8_in 2 = .ok (.if_icmp .lt 12, 3) := by decide +kernel
theorem dX8_in_5 : decode cX8_in 5 = .ok (.iload_n 0, 1) := by decide +kernel
theorem dX8_in_6 : decode cX8_in 6 = .ok (.iload_n 2, 1) := by decide +kernel
theorem dX8_in_7 : decode cX8_in 7 = .ok (.if_icmp .gt 7, 3) := by decide +kernel
theorem dX8_in_10 : decode cX8_in 10 = .ok (.iconst 1, 1) := by decide +kernel
theorem dX8_in_11 : decode cX8_in 11 = .ok (.goto 4, 3) := by decide +kernel
theorem dX8_in_14 : decode cX8_in 14 = .ok (.iconst 0, 1) := by decide +kernel
theorem dX8_in_15 : decode cX8_in 15 = .ok (.ireturn, 1) := by decide +kernel
theorem dX8_size_0 : decode cX8_size 0 = .ok (.iload_n 0, 1) := by decide +kernel
theorem dX8_size_1 : decode cX8_size 1 = .ok (.ifCond .ge 8, 3) := by decide +kernel
theorem dX8_size_4 : decode cX8_size 4 = .ok (.iload_n 0, 1) := by decide +kernel
theorem dX8_size_5 : decode cX8_size 5 = .ok (.ineg, 1) := by decide +kernel
theorem dX8_size_6 : decode cX8_size 6 = .ok (.goto 4, 3) := by decide +kernel
theorem dX8_size_9 : decode cX8_size 9 = .ok (.iload_n 0, 1) := by decide +kernel
theorem dX8_size_10 : decode cX8_size 10 = .ok (.ireturn, 1) := by decide +kernel
theorem dX8_isPlace_0 : decode cX8_isPlace 0 = .ok (.iload_n 0, 1) := by decide +kernel
theorem dX8_isPlace_1 : decode cX8_isPlace 1 = .ok (.iconst 0, 1) := by decide +kernel
theorem dX8_isPlace_2 : decode cX8_isPlace 2 = .ok (.bipush 99, 2) := by decide +kernel
theorem dX8_isPlace_4 : decode cX8_isPlace 4 = .ok (.invokestatic 65, 3) := by decide +kernel
theorem dX8_isPlace_7 : decode cX8_isPlace 7 = .ok (.ifCond .eq 17, 3) := by decide +kernel
theorem dX8_isPlace_10 : decode cX8_isPlace 10 = .ok (.iload_n 1, 1) := by decide +kernel
theorem dX8_isPlace_11 : decode cX8_isPlace 11 = .ok (.iconst 0, 1) := by decide +kernel
theorem dX8_isPlace_12 : decode cX8_isPlace 12 = .ok (.bipush 99, 2) := by decide +kernel
theorem dX8_isPlace_14 : decode cX8_isPlace 14 = .ok (.invokestatic 65, 3) := by decide +kernel
theorem dX8_isPlace_17 : decode cX8_isPlace 17 = .ok (.ifCond .eq 7, 3) := by decide +kernel
theorem dX8_isPlace_20 : decode cX8_isPlace 20 = .ok (.iconst 1, 1) := by decide +kernel
theorem dX8_isPlace_21 : decode cX8_isPlace 21 = .ok (.goto 4, 3) := by decide +kernel
theorem dX8_isPlace_24 : decode cX8_isPlace 24 = .ok (.iconst 0, 1) := by decide +kernel
theorem dX8_isPlace_25 : decode cX8_isPlace 25 = .ok (.ireturn, 1) := by decide +kernel
theorem dX8_noVehicle_0 : decode cX8_noVehicle 0 = .ok (.iload_n 1, 1) := by decide +kernel
theorem dX8_noVehicle_1 : decode cX8_noVehicle 1 = .ok (.iconst 0, 1) := by decide +kernel
theorem dX8_noVehicle_2 : decode cX8_noVehicle 2 = .ok (.aload_n 0, 1) := by decide +kernel
theorem dX8_noVehicle_3 : decode cX8_noVehicle 3 = .ok (.getfield 69, 3) := by decide +kernel
theorem dX8_noVehicle_6 : decode cX8_noVehicle 6 = .ok (.iconst 1, 1) := by decide +kernel
theorem dX8_noVehicle_7 : decode cX8_noVehicle 7 = .ok (.isub, 1) := by decide +kernel
theorem dX8_noVehicle_8 : decode cX8_noVehicle 8 = .ok (.invokestatic 65, 3) := by decide +kernel
theorem dX8_noVehicle_11 : decode cX8_noVehicle 11 = .ok (.ifCond .ne 7, 3) := by decide +kernel
theorem dX8_noVehicle_14 : decode cX8_noVehicle 14 = .ok (.iconst 1, 1) := by decide +kernel
theorem dX8_noVehicle_15 : decode cX8_noVehicle 15 = .ok (.goto 4, 3) := by decide +kernel
theorem dX8_noVehicle_18 : decode cX8_noVehicle 18 = .ok (.iconst 0, 1) := by decide +kernel
theorem dX8_noVehicle_19 : decode cX8_noVehicle 19 = .ok (.ireturn, 1) := by decide +kernel
theorem dX8_noRequest_0 : decode cX8_noRequest 0 = .ok (.iload_n 1, 1) := by decide +kernel
theorem dX8_noRequest_1 : decode cX8_noRequest 1 = .ok (.iconst 0, 1) := by decide +kernel
theorem dX8_noRequest_2 : decode cX8_noRequest 2 = .ok (.aload_n 0, 1) := by decide +kernel
theorem dX8_noRequest_3 : decode cX8_noRequest 3 = .ok (.getfield 72, 3) := by decide +kernel
theorem dX8_noRequest_6 : decode cX8_noRequest 6 = .ok (.iconst 1, 1) := by decide +kernel
theorem dX8_noRequest_7 : decode cX8_noRequest 7 = .ok (.isub, 1) := by decide +kernel
theorem dX8_noRequest_8 : decode cX8_noRequest 8 = .ok (.invokestatic 65, 3) := by decide +kernel
theorem dX8_noRequest_11 : decode cX8_noRequest 11 = .ok (.ifCond .ne 7, 3) := by decide +kernel
theorem dX8_noRequest_14 : decode cX8_noRequest 14 = .ok (.iconst 1, 1) := by decide +kernel
theorem dX8_noRequest_15 : decode cX8_noRequest 15 = .ok (.goto 4, 3) := by decide +kernel
theorem dX8_noRequest_18 : decode cX8_noRequest 18 = .ok (.iconst 0, 1) := by decide +kernel
theorem dX8_noRequest_19 : decode cX8_noRequest 19 = .ok (.ireturn, 1) := by decide +kernel
theorem dX8_addVehicle_0 : decode cX8_addVehicle 0 = .ok (.iload_n 1, 1) := by decide +kernel
theorem dX8_addVehicle_1 : decode cX8_addVehicle 1 = .ok (.iload_n 2, 1) := by decide +kernel
theorem dX8_addVehicle_2 : decode cX8_addVehicle 2 = .ok (.invokestatic 75, 3) := by decide +kernel
theorem dX8_addVehicle_5 : decode cX8_addVehicle 5 = .ok (.ifCond .eq 38, 3) := by decide +kernel
theorem dX8_addVehicle_8 : decode cX8_addVehicle 8 = .ok (.iload_n 3, 1) := by decide +kernel
theorem dX8_addVehicle_9 : decode cX8_addVehicle 9 = .ok (.iconst 1, 1) := by decide +kernel
theorem dX8_addVehicle_10 : decode cX8_addVehicle 10 = .ok (.bipush 8, 2) := by decide +kernel
theorem dX8_addVehicle_12 : decode cX8_addVehicle 12 = .ok (.invokestatic 65, 3) := by decide +kernel
theorem dX8_addVehicle_15 : decode cX8_addVehicle 15 = .ok (.ifCond .eq 28, 3) := by decide +kernel
theorem dX8_addVehicle_18 : decode cX8_addVehicle 18 = .ok (.iload 4, 2) := by decide +kernel
theorem dX8_addVehicle_20 : decode cX8_addVehicle 20 = .ok (.iconst 0, 1) := by decide +kernel
theorem dX8_addVehicle_21 : decode cX8_addVehicle 21 = .ok (.sipush 5000, 3) := by decide +kernel
theorem dX8_addVehicle_24 : decode cX8_addVehicle 24 = .ok (.invokestatic 65, 3) := by decide +kernel
theorem dX8_addVehicle_27 : decode cX8_addVehicle 27 = .ok (.ifCond .eq 16, 3) := by decide +kernel
theorem dX8_addVehicle_30 : decode cX8_addVehicle 30 = .ok (.iload 5, 2) := by decide +kernel
theorem dX8_addVehicle_32 : decode cX8_addVehicle 32 = .ok (.iload 4, 2) := by decide +kernel
theorem dX8_addVehicle_34 : decode cX8_addVehicle 34 = .ok (.sipush 5000, 3) := by decide +kernel
theorem dX8_addVehicle_37 : decode cX8_addVehicle 37 = .ok (.invokestatic 65, 3) := by decide +kernel
theorem dX8_addVehicle_40 : decode cX8_addVehicle 40 = .ok (.ifCond .ne 7, 3) := by decide +kernel
theorem dX8_addVehicle_43 : decode cX8_addVehicle 43 = .ok (.sipush (-1002), 3) := by decide +kernel
theorem dX8_addVehicle_46 : decode cX8_addVehicle 46 = .ok (.ireturn, 1) := by decide +kernel
theorem dX8_addVehicle_47 : decode cX8_addVehicle 47 = .ok (.aload_n 0, 1) := by decide +kernel
theorem dX8_addVehicle_48 : decode cX8_addVehicle 48 = .ok (.getfield 69, 3) := by decide +kernel
theorem dX8_addVehicle_51 : decode cX8_addVehicle 51 = .ok (.iconst 4, 1) := by decide +kernel
theorem dX8_addVehicle_52 : decode cX8_addVehicle 52 = .ok (.if_icmp .ne 7, 3) := by decide +kernel
theorem dX8_addVehicle_55 : decode cX8_addVehicle 55 = .ok (.sipush (-1006), 3) := by decide +kernel
theorem dX8_addVehicle_58 : decode cX8_addVehicle 58 = .ok (.ireturn, 1) := by decide +kernel
theorem dX8_addVehicle_59 : decode cX8_addVehicle 59 = .ok (.aload_n 0, 1) := by decide +kernel
theorem dX8_addVehicle_60 : decode cX8_addVehicle 60 = .ok (.getfield 7, 3) := by decide +kernel
theorem dX8_addVehicle_63 : decode cX8_addVehicle 63 = .ok (.aload_n 0, 1) := by decide +kernel
theorem dX8_addVehicle_64 : decode cX8_addVehicle 64 = .ok (.getfield 69, 3) := by decide +kernel
theorem dX8_addVehicle_67 : decode cX8_addVehicle 67 = .ok (.iload_n 1, 1) := by decide +kernel
theorem dX8_addVehicle_68 : decode cX8_addVehicle 68 = .ok (.iastore, 1) := by decide +kernel
theorem dX8_addVehicle_69 : decode cX8_addVehicle 69 = .ok (.aload_n 0, 1) := by decide +kernel
theorem dX8_addVehicle_70 : decode cX8_addVehicle 70 = .ok (.getfield 13, 3) := by decide +kernel
theorem dX8_addVehicle_73 : decode cX8_addVehicle 73 = .ok (.aload_n 0, 1) := by decide +kernel
theorem dX8_addVehicle_74 : decode cX8_addVehicle 74 = .ok (.getfield 69, 3) := by decide +kernel
theorem dX8_addVehicle_77 : decode cX8_addVehicle 77 = .ok (.iload_n 2, 1) := by decide +kernel
theorem dX8_addVehicle_78 : decode cX8_addVehicle 78 = .ok (.iastore, 1) := by decide +kernel
theorem dX8_addVehicle_79 : decode cX8_addVehicle 79 = .ok (.aload_n 0, 1) := by decide +kernel
theorem dX8_addVehicle_80 : decode cX8_addVehicle 80 = .ok (.getfield 16, 3) := by decide +kernel
theorem dX8_addVehicle_83 : decode cX8_addVehicle 83 = .ok (.aload_n 0, 1) := by decide +kernel
theorem dX8_addVehicle_84 : decode cX8_addVehicle 84 = .ok (.getfield 69, 3) := by decide +kernel
theorem dX8_addVehicle_87 : decode cX8_addVehicle 87 = .ok (.iload_n 3, 1) := by decide +kernel
theorem dX8_addVehicle_88 : decode cX8_addVehicle 88 = .ok (.iastore, 1) := by decide +kernel
theorem dX8_addVehicle_89 : decode cX8_addVehicle 89 = .ok (.aload_n 0, 1) := by decide +kernel
theorem dX8_addVehicle_90 : decode cX8_addVehicle 90 = .ok (.getfield 19, 3) := by decide +kernel
theorem dX8_addVehicle_93 : decode cX8_addVehicle 93 = .ok (.aload_n 0, 1) := by decide +kernel
theorem dX8_addVehicle_94 : decode cX8_addVehicle 94 = .ok (.getfield 69, 3) := by decide +kernel
theorem dX8_addVehicle_97 : decode cX8_addVehicle 97 = .ok (.iload 4, 2) := by decide +kernel
theorem dX8_addVehicle_99 : decode cX8_addVehicle 99 = .ok (.iastore, 1) := by decide +kernel
theorem dX8_addVehicle_100 : decode cX8_addVehicle 100 = .ok (.aload_n 0, 1) := by decide +kernel
theorem dX8_addVehicle_101 : decode cX8_addVehicle 101 = .ok (.getfield 22, 3) := by decide +kernel
theorem dX8_addVehicle_104 : decode cX8_addVehicle 104 = .ok (.aload_n 0, 1) := by decide +kernel
theorem dX8_addVehicle_105 : decode cX8_addVehicle 105 = .ok (.getfield 69, 3) := by decide +kernel
theorem dX8_addVehicle_108 : decode cX8_addVehicle 108 = .ok (.iload 5, 2) := by decide +kernel
theorem dX8_addVehicle_110 : decode cX8_addVehicle 110 = .ok (.iastore, 1) := by decide +kernel
theorem dX8_addVehicle_111 : decode cX8_addVehicle 111 = .ok (.aload_n 0, 1) := by decide +kernel
theorem dX8_addVehicle_112 : decode cX8_addVehicle 112 = .ok (.dup, 1) := by decide +kernel
theorem dX8_addVehicle_113 : decode cX8_addVehicle 113 = .ok (.getfield 69, 3) := by decide +kernel
theorem dX8_addVehicle_116 : decode cX8_addVehicle 116 = .ok (.iconst 1, 1) := by decide +kernel
theorem dX8_addVehicle_117 : decode cX8_addVehicle 117 = .ok (.iadd, 1) := by decide +kernel
theorem dX8_addVehicle_118 : decode cX8_addVehicle 118 = .ok (.putfield 69, 3) := by decide +kernel
theorem dX8_addVehicle_121 : decode cX8_addVehicle 121 = .ok (.aload_n 0, 1) := by decide +kernel
theorem dX8_addVehicle_122 : decode cX8_addVehicle 122 = .ok (.iconst 0, 1) := by decide +kernel
theorem dX8_addVehicle_123 : decode cX8_addVehicle 123 = .ok (.putfield 79, 3) := by decide +kernel
theorem dX8_addVehicle_126 : decode cX8_addVehicle 126 = .ok (.aload_n 0, 1) := by decide +kernel
theorem dX8_addVehicle_127 : decode cX8_addVehicle 127 = .ok (.getfield 69, 3) := by decide +kernel
theorem dX8_addVehicle_130 : decode cX8_addVehicle 130 = .ok (.iconst 1, 1) := by decide +kernel
theorem dX8_addVehicle_131 : decode cX8_addVehicle 131 = .ok (.isub, 1) := by decide +kernel
theorem dX8_addVehicle_132 : decode cX8_addVehicle 132 = .ok (.ireturn, 1) := by decide +kernel
theorem dX8_addRequest_0 : decode cX8_addRequest 0 = .ok (.iload_n 1, 1) := by decide +kernel
theorem dX8_addRequest_1 : decode cX8_addRequest 1 = .ok (.iload_n 2, 1) := by decide +kernel
theorem dX8_addRequest_2 : decode cX8_addRequest 2 = .ok (.invokestatic 75, 3) := by decide +kernel
theorem dX8_addRequest_5 : decode cX8_addRequest 5 = .ok (.ifCond .eq 35, 3) := by decide +kernel
theorem dX8_addRequest_8 : decode cX8_addRequest 8 = .ok (.iload_n 3, 1) := by decide +kernel
theorem dX8_addRequest_9 : decode cX8_addRequest 9 = .ok (.iload 4, 2) := by decide +kernel
theorem dX8_addRequest_11 : decode cX8_addRequest 11 = .ok (.invokestatic 75, 3) := by decide +kernel
theorem dX8_addRequest_14 : decode cX8_addRequest 14 = .ok (.ifCond .eq 26, 3) := by decide +kernel
theorem dX8_addRequest_17 : decode cX8_addRequest 17 = .ok (.iload 5, 2) := by decide +kernel
theorem dX8_addRequest_19 : decode cX8_addRequest 19 = .ok (.iconst 1, 1) := by decide +kernel
theorem dX8_addRequest_20 : decode cX8_addRequest 20 = .ok (.bipush 8, 2) := by decide +kernel
theorem dX8_addRequest_22 : decode cX8_addRequest 22 = .ok (.invokestatic 65, 3) := by decide +kernel
theorem dX8_addRequest_25 : decode cX8_addRequest 25 = .ok (.ifCond .eq 15, 3) := by decide +kernel
theorem dX8_addRequest_28 : decode cX8_addRequest 28 = .ok (.iload 6, 2) := by decide +kernel
theorem dX8_addRequest_30 : decode cX8_addRequest 30 = .ok (.iconst 0, 1) := by decide +kernel
theorem dX8_addRequest_31 : decode cX8_addRequest 31 = .ok (.sipush 1000, 3) := by decide +kernel
theorem dX8_addRequest_34 : decode cX8_addRequest 34 = .ok (.invokestatic 65, 3) := by decide +kernel
theorem dX8_addRequest_37 : decode cX8_addRequest 37 = .ok (.ifCond .ne 7, 3) := by decide +kernel
theorem dX8_addRequest_40 : decode cX8_addRequest 40 = .ok (.sipush (-1002), 3) := by decide +kernel
theorem dX8_addRequest_43 : decode cX8_addRequest 43 = .ok (.ireturn, 1) := by decide +kernel
theorem dX8_addRequest_44 : decode cX8_addRequest 44 = .ok (.aload_n 0, 1) := by decide +kernel
theorem dX8_addRequest_45 : decode cX8_addRequest 45 = .ok (.getfield 72, 3) := by decide +kernel
theorem dX8_addRequest_48 : decode cX8_addRequest 48 = .ok (.bipush 12, 2) := by decide +kernel
theorem dX8_addRequest_50 : decode cX8_addRequest 50 = .ok (.if_icmp .ne 7, 3) := by decide +kernel
theorem dX8_addRequest_53 : decode cX8_addRequest 53 = .ok (.sipush (-1006), 3) := by decide +kernel
theorem dX8_addRequest_56 : decode cX8_addRequest 56 = .ok (.ireturn, 1) := by decide +kernel
theorem dX8_addRequest_57 : decode cX8_addRequest 57 = .ok (.iconst 2, 1) := by decide +kernel
theorem dX8_addRequest_58 : decode cX8_addRequest 58 = .ok (.aload_n 0, 1) := by decide +kernel
theorem dX8_addRequest_59 : decode cX8_addRequest 59 = .ok (.getfield 72, 3) := by decide +kernel
theorem dX8_addRequest_62 : decode cX8_addRequest 62 = .ok (.imul, 1) := by decide +kernel
theorem dX8_addRequest_63 : decode cX8_addRequest 63 = .ok (.istore 7, 2) := by decide +kernel
theorem dX8_addRequest_65 : decode cX8_addRequest 65 = .ok (.aload_n 0, 1) := by decide +kernel
theorem dX8_addRequest_66 : decode cX8_addRequest 66 = .ok (.getfield 25, 3) := by decide +kernel
theorem dX8_addRequest_69 : decode cX8_addRequest 69 = .ok (.iload 7, 2) := by decide +kernel
theorem dX8_addRequest_71 : decode cX8_addRequest 71 = .ok (.iload_n 1, 1) := by decide +kernel
theorem dX8_addRequest_72 : decode cX8_addRequest 72 = .ok (.iastore, 1) := by decide +kernel
theorem dX8_addRequest_73 : decode cX8_addRequest 73 = .ok (.aload_n 0, 1) := by decide +kernel
theorem dX8_addRequest_74 : decode cX8_addRequest 74 = .ok (.getfield 28, 3) := by decide +kernel
theorem dX8_addRequest_77 : decode cX8_addRequest 77 = .ok (.iload 7, 2) := by decide +kernel
theorem dX8_addRequest_79 : decode cX8_addRequest 79 = .ok (.iload_n 2, 1) := by decide +kernel
theorem dX8_addRequest_80 : decode cX8_addRequest 80 = .ok (.iastore, 1) := by decide +kernel
theorem dX8_addRequest_81 : decode cX8_addRequest 81 = .ok (.aload_n 0, 1) := by decide +kernel
theorem dX8_addRequest_82 : decode cX8_addRequest 82 = .ok (.getfield 25, 3) := by decide +kernel
theorem dX8_addRequest_85 : decode cX8_addRequest 85 = .ok (.iload 7, 2) := by decide +kernel
theorem dX8_addRequest_87 : decode cX8_addRequest 87 = .ok (.iconst 1, 1) := by decide +kernel
theorem dX8_addRequest_88 : decode cX8_addRequest 88 = .ok (.iadd, 1) := by decide +kernel
theorem dX8_addRequest_89 : decode cX8_addRequest 89 = .ok (.iload_n 3, 1) := by decide +kernel
theorem dX8_addRequest_90 : decode cX8_addRequest 90 = .ok (.iastore, 1) := by decide +kernel
theorem dX8_addRequest_91 : decode cX8_addRequest 91 = .ok (.aload_n 0, 1) := by decide +kernel
theorem dX8_addRequest_92 : decode cX8_addRequest 92 = .ok (.getfield 28, 3) := by decide +kernel
theorem dX8_addRequest_95 : decode cX8_addRequest 95 = .ok (.iload 7, 2) := by decide +kernel
theorem dX8_addRequest_97 : decode cX8_addRequest 97 = .ok (.iconst 1, 1) := by decide +kernel
theorem dX8_addRequest_98 : decode cX8_addRequest 98 = .ok (.iadd, 1) := by decide +kernel
theorem dX8_addRequest_99 : decode cX8_addRequest 99 = .ok (.iload 4, 2) := by decide +kernel
theorem dX8_addRequest_101 : decode cX8_addRequest 101 = .ok (.iastore, 1) := by decide +kernel
theorem dX8_addRequest_102 : decode cX8_addRequest 102 = .ok (.iload 7, 2) := by decide +kernel
theorem dX8_addRequest_104 : decode cX8_addRequest 104 = .ok (.istore 8, 2) := by decide +kernel
theorem dX8_addRequest_106 : decode cX8_addRequest 106 = .ok (.iload 8, 2) := by decide +kernel
theorem dX8_addRequest_108 : decode cX8_addRequest 108 = .ok (.iload 7, 2) := by decide +kernel
theorem dX8_addRequest_110 : decode cX8_addRequest 110 = .ok (.iconst 2, 1) := by decide +kernel
theorem dX8_addRequest_111 : decode cX8_addRequest 111 = .ok (.iadd, 1) := by decide +kernel
theorem dX8_addRequest_112 : decode cX8_addRequest 112 = .ok (.if_icmp .ge 27, 3) := by decide +kernel
theorem dX8_addRequest_115 : decode cX8_addRequest 115 = .ok (.aload_n 0, 1) := by decide +kernel
theorem dX8_addRequest_116 : decode cX8_addRequest 116 = .ok (.getfield 31, 3) := by decide +kernel
theorem dX8_addRequest_119 : decode cX8_addRequest 119 = .ok (.iload 8, 2) := by decide +kernel
theorem dX8_addRequest_121 : decode cX8_addRequest 121 = .ok (.iconst 0, 1) := by decide +kernel
theorem dX8_addRequest_122 : decode cX8_addRequest 122 = .ok (.iastore, 1) := by decide +kernel
theorem dX8_addRequest_123 : decode cX8_addRequest 123 = .ok (.aload_n 0, 1) := by decide +kernel
theorem dX8_addRequest_124 : decode cX8_addRequest 124 = .ok (.getfield 34, 3) := by decide +kernel
theorem dX8_addRequest_127 : decode cX8_addRequest 127 = .ok (.iload 8, 2) := by decide +kernel
theorem dX8_addRequest_129 : decode cX8_addRequest 129 = .ok (.sipush 5000, 3) := by decide +kernel
theorem dX8_addRequest_132 : decode cX8_addRequest 132 = .ok (.iastore, 1) := by decide +kernel
theorem dX8_addRequest_133 : decode cX8_addRequest 133 = .ok (.iinc 8 1, 3) := by decide +kernel
theorem dX8_addRequest_136 : decode cX8_addRequest 136 = .ok (.goto (-30), 3) := by decide +kernel
theorem dX8_addRequest_139 : decode cX8_addRequest 139 = .ok (.aload_n 0, 1) := by decide +kernel
theorem dX8_addRequest_140 : decode cX8_addRequest 140 = .ok (.getfield 37, 3) := by decide +kernel
theorem dX8_addRequest_143 : decode cX8_addRequest 143 = .ok (.aload_n 0, 1) := by decide +kernel
theorem dX8_addRequest_144 : decode cX8_addRequest 144 = .ok (.getfield 72, 3) := by decide +kernel
theorem dX8_addRequest_147 : decode cX8_addRequest 147 = .ok (.iload 5, 2) := by decide +kernel
theorem dX8_addRequest_149 : decode cX8_addRequest 149 = .ok (.iastore, 1) := by decide +kernel
theorem dX8_addRequest_150 : decode cX8_addRequest 150 = .ok (.aload_n 0, 1) := by decide +kernel
theorem dX8_addRequest_151 : decode cX8_addRequest 151 = .ok (.getfield 40, 3) := by decide +kernel
theorem dX8_addRequest_154 : decode cX8_addRequest 154 = .ok (.aload_n 0, 1) := by decide +kernel
theorem dX8_addRequest_155 : decode cX8_addRequest 155 = .ok (.getfield 72, 3) := by decide +kernel
theorem dX8_addRequest_158 : decode cX8_addRequest 158 = .ok (.iload 6, 2) := by decide +kernel
theorem dX8_addRequest_160 : decode cX8_addRequest 160 = .ok (.iastore, 1) := by decide +kernel
theorem dX8_addRequest_161 : decode cX8_addRequest 161 = .ok (.aload_n 0, 1) := by decide +kernel
theorem dX8_addRequest_162 : decode cX8_addRequest 162 = .ok (.dup, 1) := by decide +kernel
theorem dX8_addRequest_163 : decode cX8_addRequest 163 = .ok (.getfield 72, 3) := by decide +kernel
theorem dX8_addRequest_166 : decode cX8_addRequest 166 = .ok (.iconst 1, 1) := by decide +kernel
theorem dX8_addRequest_167 : decode cX8_addRequest 167 = .ok (.iadd, 1) := by decide +kernel
theorem dX8_addRequest_168 : decode cX8_addRequest 168 = .ok (.putfield 72, 3) := by decide +kernel
theorem dX8_addRequest_171 : decode cX8_addRequest 171 = .ok (.aload_n 0, 1) := by decide +kernel
theorem dX8_addRequest_172 : decode cX8_addRequest 172 = .ok (.iconst 0, 1) := by decide +kernel
theorem dX8_addRequest_173 : decode cX8_addRequest 173 = .ok (.putfield 79, 3) := by decide +kernel
theorem dX8_addRequest_176 : decode cX8_addRequest 176 = .ok (.aload_n 0, 1) := by decide +kernel
theorem dX8_addRequest_177 : decode cX8_addRequest 177 = .ok (.getfield 72, 3) := by decide +kernel
theorem dX8_addRequest_180 : decode cX8_addRequest 180 = .ok (.iconst 1, 1) := by decide +kernel
theorem dX8_addRequest_181 : decode cX8_addRequest 181 = .ok (.isub, 1) := by decide +kernel
theorem dX8_addRequest_182 : decode cX8_addRequest 182 = .ok (.ireturn, 1) := by decide +kernel
theorem dX8_vehicleOf_0 : decode cX8_vehicleOf 0 = .ok (.iconst 0, 1) := by decide +kernel
theorem dX8_vehicleOf_1 : decode cX8_vehicleOf 1 = .ok (.istore_n 2, 1) := by decide +kernel
theorem dX8_vehicleOf_2 : decode cX8_vehicleOf 2 = .ok (.iload_n 2, 1) := by decide +kernel
theorem dX8_vehicleOf_3 : decode cX8_vehicleOf 3 = .ok (.aload_n 0, 1) := by decide +kernel
theorem dX8_vehicleOf_4 : decode cX8_vehicleOf 4 = .ok (.getfield 69, 3) := by decide +kernel
theorem dX8_vehicleOf_7 : decode cX8_vehicleOf 7 = .ok (.if_icmp .ge 49, 3) := by decide +kernel
theorem dX8_vehicleOf_10 : decode cX8_vehicleOf 10 = .ok (.iconst 0, 1) := by decide +kernel
theorem dX8_vehicleOf_11 : decode cX8_vehicleOf 11 = .ok (.istore_n 3, 1) := by decide +kernel
theorem dX8_vehicleOf_12 : decode cX8_vehicleOf 12 = .ok (.iload_n 3, 1) := by decide +kernel
theorem dX8_vehicleOf_13 : decode cX8_vehicleOf 13 = .ok (.aload_n 0, 1) := by decide +kernel
theorem dX8_vehicleOf_14 : decode cX8_vehicleOf 14 = .ok (.getfield 43, 3) := by decide +kernel
theorem dX8_vehicleOf_17 : decode cX8_vehicleOf 17 = .ok (.bipush 96, 2) := by decide +kernel
theorem dX8_vehicleOf_19 : decode cX8_vehicleOf 19 = .ok (.iload_n 2, 1) := by decide +kernel
theorem dX8_vehicleOf_20 : decode cX8_vehicleOf 20 = .ok (.iadd, 1) := by decide +kernel
theorem dX8_vehicleOf_21 : decode cX8_vehicleOf 21 = .ok (.iaload, 1) := by decide +kernel
theorem dX8_vehicleOf_22 : decode cX8_vehicleOf 22 = .ok (.if_icmp .ge 28, 3) := by decide +kernel
theorem dX8_vehicleOf_25 : decode cX8_vehicleOf 25 = .ok (.aload_n 0, 1) := by decide +kernel
theorem dX8_vehicleOf_26 : decode cX8_vehicleOf 26 = .ok (.getfield 43, 3) := by decide +kernel
theorem dX8_vehicleOf_29 : decode cX8_vehicleOf 29 = .ok (.bipush 24, 2) := by decide +kernel
theorem dX8_vehicleOf_31 : decode cX8_vehicleOf 31 = .ok (.iload_n 2, 1) := by decide +kernel
theorem dX8_vehicleOf_32 : decode cX8_vehicleOf 32 = .ok (.imul, 1) := by decide +kernel
theorem dX8_vehicleOf_33 : decode cX8_vehicleOf 33 = .ok (.iload_n 3, 1) := by decide +kernel
theorem dX8_vehicleOf_34 : decode cX8_vehicleOf 34 = .ok (.iadd, 1) := by decide +kernel
theorem dX8_vehicleOf_35 : decode cX8_vehicleOf 35 = .ok (.iaload, 1) := by decide +kernel
theorem dX8_vehicleOf_36 : decode cX8_vehicleOf 36 = .ok (.iconst 2, 1) := by decide +kernel
theorem dX8_vehicleOf_37 : decode cX8_vehicleOf 37 = .ok (.idiv, 1) := by decide +kernel
theorem dX8_vehicleOf_38 : decode cX8_vehicleOf 38 = .ok (.iload_n 1, 1) := by decide +kernel
theorem dX8_vehicleOf_39 : decode cX8_vehicleOf 39 = .ok (.if_icmp .ne 5, 3) := by decide +kernel
theorem dX8_vehicleOf_42 : decode cX8_vehicleOf 42 = .ok (.iload_n 2, 1) := by decide +kernel
theorem dX8_vehicleOf_43 : decode cX8_vehicleOf 43 = .ok (.ireturn, 1) := by decide +kernel
theorem dX8_vehicleOf_44 : decode cX8_vehicleOf 44 = .ok (.iinc 3 1, 3) := by decide +kernel
theorem dX8_vehicleOf_47 : decode cX8_vehicleOf 47 = .ok (.goto (-35), 3) := by decide +kernel
theorem dX8_vehicleOf_50 : decode cX8_vehicleOf 50 = .ok (.iinc 2 1, 3) := by decide +kernel
theorem dX8_vehicleOf_53 : decode cX8_vehicleOf 53 = .ok (.goto (-51), 3) := by decide +kernel
theorem dX8_vehicleOf_56 : decode cX8_vehicleOf 56 = .ok (.iconst (-1), 1) := by decide +kernel
theorem dX8_vehicleOf_57 : decode cX8_vehicleOf 57 = .ok (.ireturn, 1) := by decide +kernel
theorem dX8_take_0 : decode cX8_take 0 = .ok (.aload_n 0, 1) := by decide +kernel
theorem dX8_take_1 : decode cX8_take 1 = .ok (.aload_n 0, 1) := by decide +kernel
theorem dX8_take_2 : decode cX8_take 2 = .ok (.getfield 43, 3) := by decide +kernel
theorem dX8_take_5 : decode cX8_take 5 = .ok (.bipush 96, 2) := by decide +kernel
theorem dX8_take_7 : decode cX8_take 7 = .ok (.iload_n 1, 1) := by decide +kernel
theorem dX8_take_8 : decode cX8_take 8 = .ok (.iadd, 1) := by decide +kernel
theorem dX8_take_9 : decode cX8_take 9 = .ok (.iaload, 1) := by decide +kernel
theorem dX8_take_10 : decode cX8_take 10 = .ok (.putfield 82, 3) := by decide +kernel
theorem dX8_take_13 : decode cX8_take 13 = .ok (.iconst 0, 1) := by decide +kernel
theorem dX8_take_14 : decode cX8_take 14 = .ok (.istore_n 2, 1) := by decide +kernel
theorem dX8_take_15 : decode cX8_take 15 = .ok (.iload_n 2, 1) := by decide +kernel
theorem dX8_take_16 : decode cX8_take 16 = .ok (.aload_n 0, 1) := by decide +kernel
theorem dX8_take_17 : decode cX8_take 17 = .ok (.getfield 82, 3) := by decide +kernel
theorem dX8_take_20 : decode cX8_take 20 = .ok (.if_icmp .ge 26, 3) := by decide +kernel
theorem dX8_take_23 : decode cX8_take 23 = .ok (.aload_n 0, 1) := by decide +kernel
theorem dX8_take_24 : decode cX8_take 24 = .ok (.getfield 46, 3) := by decide +kernel
theorem dX8_take_27 : decode cX8_take 27 = .ok (.iload_n 2, 1) := by decide +kernel
theorem dX8_take_28 : decode cX8_take 28 = .ok (.aload_n 0, 1) := by decide +kernel
theorem dX8_take_29 : decode cX8_take 29 = .ok (.getfield 43, 3) := by decide +kernel
theorem dX8_take_32 : decode cX8_take 32 = .ok (.bipush 24, 2) := by decide +kernel
theorem dX8_take_34 : decode cX8_take 34 = .ok (.iload_n 1, 1) := by decide +kernel
theorem dX8_take_35 : decode cX8_take 35 = .ok (.imul, 1) := by decide +kernel
theorem dX8_take_36 : decode cX8_take 36 = .ok (.iload_n 2, 1) := by decide +kernel
theorem dX8_take_37 : decode cX8_take 37 = .ok (.iadd, 1) := by decide +kernel
theorem dX8_take_38 : decode cX8_take 38 = .ok (.iaload, 1) := by decide +kernel
theorem dX8_take_39 : decode cX8_take 39 = .ok (.iastore, 1) := by decide +kernel
theorem dX8_take_40 : decode cX8_take 40 = .ok (.iinc 2 1, 3) := by decide +kernel
theorem dX8_take_43 : decode cX8_take 43 = .ok (.goto (-28), 3) := by decide +kernel
theorem dX8_take_46 : decode cX8_take 46 = .ok (.return_, 1) := by decide +kernel
theorem dX8_between_0 : decode cX8_between 0 = .ok (.aload_n 0, 1) := by decide +kernel
theorem dX8_between_1 : decode cX8_between 1 = .ok (.getfield 25, 3) := by decide +kernel
theorem dX8_between_4 : decode cX8_between 4 = .ok (.iload_n 1, 1) := by decide +kernel
theorem dX8_between_5 : decode cX8_between 5 = .ok (.iaload, 1) := by decide +kernel
theorem dX8_between_6 : decode cX8_between 6 = .ok (.aload_n 0, 1) := by decide +kernel
theorem dX8_between_7 : decode cX8_between 7 = .ok (.getfield 25, 3) := by decide +kernel
theorem dX8_between_10 : decode cX8_between 10 = .ok (.iload_n 2, 1) := by decide +kernel
theorem dX8_between_11 : decode cX8_between 11 = .ok (.iaload, 1) := by decide +kernel
theorem dX8_between_12 : decode cX8_between 12 = .ok (.isub, 1) := by decide +kernel
theorem dX8_between_13 : decode cX8_between 13 = .ok (.invokestatic 85, 3) := by decide +kernel
theorem dX8_between_16 : decode cX8_between 16 = .ok (.aload_n 0, 1) := by decide +kernel
theorem dX8_between_17 : decode cX8_between 17 = .ok (.getfield 28, 3) := by decide +kernel
theorem dX8_between_20 : decode cX8_between 20 = .ok (.iload_n 1, 1) := by decide +kernel
theorem dX8_between_21 : decode cX8_between 21 = .ok (.iaload, 1) := by decide +kernel
theorem dX8_between_22 : decode cX8_between 22 = .ok (.aload_n 0, 1) := by decide +kernel
theorem dX8_between_23 : decode cX8_between 23 = .ok (.getfield 28, 3) := by decide +kernel
theorem dX8_between_26 : decode cX8_between 26 = .ok (.iload_n 2, 1) := by decide +kernel
theorem dX8_between_27 : decode cX8_between 27 = .ok (.iaload, 1) := by decide +kernel
theorem dX8_between_28 : decode cX8_between 28 = .ok (.isub, 1) := by decide +kernel
theorem dX8_between_29 : decode cX8_between 29 = .ok (.invokestatic 85, 3) := by decide +kernel
theorem dX8_between_32 : decode cX8_between 32 = .ok (.iadd, 1) := by decide +kernel
theorem dX8_between_33 : decode cX8_between 33 = .ok (.ireturn, 1) := by decide +kernel
theorem dX8_fromDepot_0 : decode cX8_fromDepot 0 = .ok (.aload_n 0, 1) := by decide +kernel
theorem dX8_fromDepot_1 : decode cX8_fromDepot 1 = .ok (.getfield 25, 3) := by decide +kernel
theorem dX8_fromDepot_4 : decode cX8_fromDepot 4 = .ok (.iload_n 2, 1) := by decide +kernel
theorem dX8_fromDepot_5 : decode cX8_fromDepot 5 = .ok (.iaload, 1) := by decide +kernel
theorem dX8_fromDepot_6 : decode cX8_fromDepot 6 = .ok (.aload_n 0, 1) := by decide +kernel
theorem dX8_fromDepot_7 : decode cX8_fromDepot 7 = .ok (.getfield 7, 3) := by decide +kernel
theorem dX8_fromDepot_10 : decode cX8_fromDepot 10 = .ok (.iload_n 1, 1) := by decide +kernel
theorem dX8_fromDepot_11 : decode cX8_fromDepot 11 = .ok (.iaload, 1) := by decide +kernel
theorem dX8_fromDepot_12 : decode cX8_fromDepot 12 = .ok (.isub, 1) := by decide +kernel
theorem dX8_fromDepot_13 : decode cX8_fromDepot 13 = .ok (.invokestatic 85, 3) := by decide +kernel
theorem dX8_fromDepot_16 : decode cX8_fromDepot 16 = .ok (.aload_n 0, 1) := by decide +kernel
theorem dX8_fromDepot_17 : decode cX8_fromDepot 17 = .ok (.getfield 28, 3) := by decide +kernel
theorem dX8_fromDepot_20 : decode cX8_fromDepot 20 = .ok (.iload_n 2, 1) := by decide +kernel
theorem dX8_fromDepot_21 : decode cX8_fromDepot 21 = .ok (.iaload, 1) := by decide +kernel
theorem dX8_fromDepot_22 : decode cX8_fromDepot 22 = .ok (.aload_n 0, 1) := by decide +kernel
theorem dX8_fromDepot_23 : decode cX8_fromDepot 23 = .ok (.getfield 13, 3) := by decide +kernel
theorem dX8_fromDepot_26 : decode cX8_fromDepot 26 = .ok (.iload_n 1, 1) := by decide +kernel
theorem dX8_fromDepot_27 : decode cX8_fromDepot 27 = .ok (.iaload, 1) := by decide +kernel
theorem dX8_fromDepot_28 : decode cX8_fromDepot 28 = .ok (.isub, 1) := by decide +kernel
theorem dX8_fromDepot_29 : decode cX8_fromDepot 29 = .ok (.invokestatic 85, 3) := by decide +kernel
theorem dX8_fromDepot_32 : decode cX8_fromDepot 32 = .ok (.iadd, 1) := by decide +kernel
theorem dX8_fromDepot_33 : decode cX8_fromDepot 33 = .ok (.ireturn, 1) := by decide +kernel
theorem dX8_length_0 : decode cX8_length 0 = .ok (.aload_n 0, 1) := by decide +kernel
theorem dX8_length_1 : decode cX8_length 1 = .ok (.getfield 82, 3) := by decide +kernel
theorem dX8_length_4 : decode cX8_length 4 = .ok (.ifCond .ne 5, 3) := by decide +kernel
theorem dX8_length_7 : decode cX8_length 7 = .ok (.iconst 0, 1) := by decide +kernel
theorem dX8_length_8 : decode cX8_length 8 = .ok (.ireturn, 1) := by decide +kernel
theorem dX8_length_9 : decode cX8_length 9 = .ok (.aload_n 0, 1) := by decide +kernel
theorem dX8_length_10 : decode cX8_length 10 = .ok (.iload_n 1, 1) := by decide +kernel
theorem dX8_length_11 : decode cX8_length 11 = .ok (.aload_n 0, 1) := by decide +kernel
theorem dX8_length_12 : decode cX8_length 12 = .ok (.getfield 46, 3) := by decide +kernel
theorem dX8_length_15 : decode cX8_length 15 = .ok (.iconst 0, 1) := by decide +kernel
theorem dX8_length_16 : decode cX8_length 16 = .ok (.iaload, 1) := by decide +kernel
theorem dX8_length_17 : decode cX8_length 17 = .ok (.invokevirtual 89, 3) := by decide +kernel
theorem dX8_length_20 : decode cX8_length 20 = .ok (.aload_n 0, 1) := by decide +kernel
theorem dX8_length_21 : decode cX8_length 21 = .ok (.iload_n 1, 1) := by decide +kernel
theorem dX8_length_22 : decode cX8_length 22 = .ok (.aload_n 0, 1) := by decide +kernel
theorem dX8_length_23 : decode cX8_length 23 = .ok (.getfield 46, 3) := by decide +kernel
theorem dX8_length_26 : decode cX8_length 26 = .ok (.aload_n 0, 1) := by decide +kernel
theorem dX8_length_27 : decode cX8_length 27 = .ok (.getfield 82, 3) := by decide +kernel
theorem dX8_length_30 : decode cX8_length 30 = .ok (.iconst 1, 1) := by decide +kernel
theorem dX8_length_31 : decode cX8_length 31 = .ok (.isub, 1) := by decide +kernel
theorem dX8_length_32 : decode cX8_length 32 = .ok (.iaload, 1) := by decide +kernel
theorem dX8_length_33 : decode cX8_length 33 = .ok (.invokevirtual 89, 3) := by decide +kernel
theorem dX8_length_36 : decode cX8_length 36 = .ok (.iadd, 1) := by decide +kernel
theorem dX8_length_37 : decode cX8_length 37 = .ok (.istore_n 2, 1) := by decide +kernel
theorem dX8_length_38 : decode cX8_length 38 = .ok (.iconst 1, 1) := by decide +kernel
theorem dX8_length_39 : decode cX8_length 39 = .ok (.istore_n 3, 1) := by decide +kernel
theorem dX8_length_40 : decode cX8_length 40 = .ok (.iload_n 3, 1) := by decide +kernel
theorem dX8_length_41 : decode cX8_length 41 = .ok (.aload_n 0, 1) := by decide +kernel
theorem dX8_length_42 : decode cX8_length 42 = .ok (.getfield 82, 3) := by decide +kernel
theorem dX8_length_45 : decode cX8_length 45 = .ok (.if_icmp .ge 30, 3) := by decide +kernel
theorem dX8_length_48 : decode cX8_length 48 = .ok (.iload_n 2, 1) := by decide +kernel
theorem dX8_length_49 : decode cX8_length 49 = .ok (.aload_n 0, 1) := by decide +kernel
theorem dX8_length_50 : decode cX8_length 50 = .ok (.aload_n 0, 1) := by decide +kernel
theorem dX8_length_51 : decode cX8_length 51 = .ok (.getfield 46, 3) := by decide +kernel
theorem dX8_length_54 : decode cX8_length 54 = .ok (.iload_n 3, 1) := by decide +kernel
theorem dX8_length_55 : decode cX8_length 55 = .ok (.iconst 1, 1) := by decide +kernel
theorem dX8_length_56 : decode cX8_length 56 = .ok (.isub, 1) := by decide +kernel
theorem dX8_length_57 : decode cX8_length 57 = .ok (.iaload, 1) := by decide +kernel
theorem dX8_length_58 : decode cX8_length 58 = .ok (.aload_n 0, 1) := by decide +kernel
theorem dX8_length_59 : decode cX8_length 59 = .ok (.getfield 46, 3) := by decide +kernel
theorem dX8_length_62 : decode cX8_length 62 = .ok (.iload_n 3, 1) := by decide +kernel
theorem dX8_length_63 : decode cX8_length 63 = .ok (.iaload, 1) := by decide +kernel
theorem dX8_length_64 : decode cX8_length 64 = .ok (.invokevirtual 93, 3) := by decide +kernel
theorem dX8_length_67 : decode cX8_length 67 = .ok (.iadd, 1) := by decide +kernel
theorem dX8_length_68 : decode cX8_length 68 = .ok (.istore_n 2, 1) := by decide +kernel
theorem dX8_length_69 : decode cX8_length 69 = .ok (.iinc 3 1, 3) := by decide +kernel
theorem dX8_length_72 : decode cX8_length 72 = .ok (.goto (-32), 3) := by decide +kernel
theorem dX8_length_75 : decode cX8_length 75 = .ok (.iload_n 2, 1) := by decide +kernel
theorem dX8_length_76 : decode cX8_length 76 = .ok (.ireturn, 1) := by decide +kernel
theorem dX8_placeOf_0 : decode cX8_placeOf 0 = .ok (.iconst 0, 1) := by decide +kernel
theorem dX8_placeOf_1 : decode cX8_placeOf 1 = .ok (.istore_n 2, 1) := by decide +kernel
theorem dX8_placeOf_2 : decode cX8_placeOf 2 = .ok (.aload_n 0, 1) := by decide +kernel
theorem dX8_placeOf_3 : decode cX8_placeOf 3 = .ok (.getfield 46, 3) := by decide +kernel
theorem dX8_placeOf_6 : decode cX8_placeOf 6 = .ok (.iload_n 2, 1) := by decide +kernel
theorem dX8_placeOf_7 : decode cX8_placeOf 7 = .ok (.iaload, 1) := by decide +kernel
theorem dX8_placeOf_8 : decode cX8_placeOf 8 = .ok (.iload_n 1, 1) := by decide +kernel
theorem dX8_placeOf_9 : decode cX8_placeOf 9 = .ok (.if_icmp .eq 9, 3) := by decide +kernel
theorem dX8_placeOf_12 : decode cX8_placeOf 12 = .ok (.iinc 2 1, 3) := by decide +kernel
theorem dX8_placeOf_15 : decode cX8_placeOf 15 = .ok (.goto (-13), 3) := by decide +kernel
theorem dX8_placeOf_18 : decode cX8_placeOf 18 = .ok (.iload_n 2, 1) := by decide +kernel
theorem dX8_placeOf_19 : decode cX8_placeOf 19 = .ok (.ireturn, 1) := by decide +kernel
theorem dX8_greatestLoad_0 : decode cX8_greatestLoad 0 = .ok (.iconst 0, 1) := by decide +kernel
theorem dX8_greatestLoad_1 : decode cX8_greatestLoad 1 = .ok (.istore_n 1, 1) := by decide +kernel
theorem dX8_greatestLoad_2 : decode cX8_greatestLoad 2 = .ok (.iconst 0, 1) := by decide +kernel
theorem dX8_greatestLoad_3 : decode cX8_greatestLoad 3 = .ok (.istore_n 2, 1) := by decide +kernel
theorem dX8_greatestLoad_4 : decode cX8_greatestLoad 4 = .ok (.iconst 0, 1) := by decide +kernel
theorem dX8_greatestLoad_5 : decode cX8_greatestLoad 5 = .ok (.istore_n 3, 1) := by decide +kernel
theorem dX8_greatestLoad_6 : decode cX8_greatestLoad 6 = .ok (.iload_n 3, 1) := by decide +kernel
theorem dX8_greatestLoad_7 : decode cX8_greatestLoad 7 = .ok (.aload_n 0, 1) := by decide +kernel
theorem dX8_greatestLoad_8 : decode cX8_greatestLoad 8 = .ok (.getfield 82, 3) := by decide +kernel
theorem dX8_greatestLoad_11 : decode cX8_greatestLoad 11 = .ok (.if_icmp .ge 57, 3) := by decide +kernel
theorem dX8_greatestLoad_14 : decode cX8_greatestLoad 14 = .ok (.aload_n 0, 1) := by decide +kernel
theorem dX8_greatestLoad_15 : decode cX8_greatestLoad 15 = .ok (.getfield 37, 3) := by decide +kernel
theorem dX8_greatestLoad_18 : decode cX8_greatestLoad 18 = .ok (.aload_n 0, 1) := by decide +kernel
theorem dX8_greatestLoad_19 : decode cX8_greatestLoad 19 = .ok (.getfield 46, 3) := by decide +kernel
theorem dX8_greatestLoad_22 : decode cX8_greatestLoad 22 = .ok (.iload_n 3, 1) := by decide +kernel
theorem dX8_greatestLoad_23 : decode cX8_greatestLoad 23 = .ok (.iaload, 1) := by decide +kernel
theorem dX8_greatestLoad_24 : decode cX8_greatestLoad 24 = .ok (.iconst 2, 1) := by decide +kernel
theorem dX8_greatestLoad_25 : decode cX8_greatestLoad 25 = .ok (.idiv, 1) := by decide +kernel
theorem dX8_greatestLoad_26 : decode cX8_greatestLoad 26 = .ok (.iaload, 1) := by decide +kernel
theorem dX8_greatestLoad_27 : decode cX8_greatestLoad 27 = .ok (.istore 4, 2) := by decide +kernel
theorem dX8_greatestLoad_29 : decode cX8_greatestLoad 29 = .ok (.iload_n 1, 1) := by decide +kernel
theorem dX8_greatestLoad_30 : decode cX8_greatestLoad 30 = .ok (.aload_n 0, 1) := by decide +kernel
theorem dX8_greatestLoad_31 : decode cX8_greatestLoad 31 = .ok (.getfield 46, 3) := by decide +kernel
theorem dX8_greatestLoad_34 : decode cX8_greatestLoad 34 = .ok (.iload_n 3, 1) := by decide +kernel
theorem dX8_greatestLoad_35 : decode cX8_greatestLoad 35 = .ok (.iaload, 1) := by decide +kernel
theorem dX8_greatestLoad_36 : decode cX8_greatestLoad 36 = .ok (.iconst 2, 1) := by decide +kernel
theorem dX8_greatestLoad_37 : decode cX8_greatestLoad 37 = .ok (.irem, 1) := by decide +kernel
theorem dX8_greatestLoad_38 : decode cX8_greatestLoad 38 = .ok (.ifCond .ne 8, 3) := by decide +kernel
theorem dX8_greatestLoad_41 : decode cX8_greatestLoad 41 = .ok (.iload 4, 2) := by decide +kernel
theorem dX8_greatestLoad_43 : decode cX8_greatestLoad 43 = .ok (.goto 6, 3) := by decide +kernel
theorem dX8_greatestLoad_46 : decode cX8_greatestLoad 46 = .ok (.iload 4, 2) := by decide +kernel
theorem dX8_greatestLoad_48 : decode cX8_greatestLoad 48 = .ok (.ineg, 1) := by decide +kernel
theorem dX8_greatestLoad_49 : decode cX8_greatestLoad 49 = .ok (.iadd, 1) := by decide +kernel
theorem dX8_greatestLoad_50 : decode cX8_greatestLoad 50 = .ok (.istore_n 1, 1) := by decide +kernel
theorem dX8_greatestLoad_51 : decode cX8_greatestLoad 51 = .ok (.iload_n 1, 1) := by decide +kernel
theorem dX8_greatestLoad_52 : decode cX8_greatestLoad 52 = .ok (.iload_n 2, 1) := by decide +kernel
theorem dX8_greatestLoad_53 : decode cX8_greatestLoad 53 = .ok (.if_icmp .le 7, 3) := by decide +kernel
theorem dX8_greatestLoad_56 : decode cX8_greatestLoad 56 = .ok (.iload_n 1, 1) := by decide +kernel
theorem dX8_greatestLoad_57 : decode cX8_greatestLoad 57 = .ok (.goto 4, 3) := by decide +kernel
theorem dX8_greatestLoad_60 : decode cX8_greatestLoad 60 = .ok (.iload_n 2, 1) := by decide +kernel
theorem dX8_greatestLoad_61 : decode cX8_greatestLoad 61 = .ok (.istore_n 2, 1) := by decide +kernel
theorem dX8_greatestLoad_62 : decode cX8_greatestLoad 62 = .ok (.iinc 3 1, 3) := by decide +kernel
theorem dX8_greatestLoad_65 : decode cX8_greatestLoad 65 = .ok (.goto (-59), 3) := by decide +kernel
theorem dX8_greatestLoad_68 : decode cX8_greatestLoad 68 = .ok (.iload_n 2, 1) := by decide +kernel
theorem dX8_greatestLoad_69 : decode cX8_greatestLoad 69 = .ok (.ireturn, 1) := by decide +kernel
theorem dX8_layEarly_0 : decode cX8_layEarly 0 = .ok (.iconst 0, 1) := by decide +kernel
theorem dX8_layEarly_1 : decode cX8_layEarly 1 = .ok (.istore_n 2, 1) := by decide +kernel
theorem dX8_layEarly_2 : decode cX8_layEarly 2 = .ok (.iload_n 2, 1) := by decide +kernel
theorem dX8_layEarly_3 : decode cX8_layEarly 3 = .ok (.aload_n 0, 1) := by decide +kernel
theorem dX8_layEarly_4 : decode cX8_layEarly 4 = .ok (.getfield 82, 3) := by decide +kernel
theorem dX8_layEarly_7 : decode cX8_layEarly 7 = .ok (.if_icmp .ge 26, 3) := by decide +kernel
theorem dX8_layEarly_10 : decode cX8_layEarly 10 = .ok (.aload_n 0, 1) := by decide +kernel
theorem dX8_layEarly_11 : decode cX8_layEarly 11 = .ok (.getfield 49, 3) := by decide +kernel
theorem dX8_layEarly_14 : decode cX8_layEarly 14 = .ok (.iload_n 2, 1) := by decide +kernel
theorem dX8_layEarly_15 : decode cX8_layEarly 15 = .ok (.aload_n 0, 1) := by decide +kernel
theorem dX8_layEarly_16 : decode cX8_layEarly 16 = .ok (.getfield 31, 3) := by decide +kernel
theorem dX8_layEarly_19 : decode cX8_layEarly 19 = .ok (.aload_n 0, 1) := by decide +kernel
theorem dX8_layEarly_20 : decode cX8_layEarly 20 = .ok (.getfield 46, 3) := by decide +kernel
theorem dX8_layEarly_23 : decode cX8_layEarly 23 = .ok (.iload_n 2, 1) := by decide +kernel
theorem dX8_layEarly_24 : decode cX8_layEarly 24 = .ok (.iaload, 1) := by decide +kernel
theorem dX8_layEarly_25 : decode cX8_layEarly 25 = .ok (.iaload, 1) := by decide +kernel
theorem dX8_layEarly_26 : decode cX8_layEarly 26 = .ok (.iastore, 1) := by decide +kernel
theorem dX8_layEarly_27 : decode cX8_layEarly 27 = .ok (.iinc 2 1, 3) := by decide +kernel
theorem dX8_layEarly_30 : decode cX8_layEarly 30 = .ok (.goto (-28), 3) := by decide +kernel
theorem dX8_layEarly_33 : decode cX8_layEarly 33 = .ok (.aload_n 0, 1) := by decide +kernel
theorem dX8_layEarly_34 : decode cX8_layEarly 34 = .ok (.getfield 82, 3) := by decide +kernel
theorem dX8_layEarly_37 : decode cX8_layEarly 37 = .ok (.ifCond .le 54, 3) := by decide +kernel
theorem dX8_layEarly_40 : decode cX8_layEarly 40 = .ok (.aload_n 0, 1) := by decide +kernel
theorem dX8_layEarly_41 : decode cX8_layEarly 41 = .ok (.getfield 49, 3) := by decide +kernel
theorem dX8_layEarly_44 : decode cX8_layEarly 44 = .ok (.iconst 0, 1) := by decide +kernel
theorem dX8_layEarly_45 : decode cX8_layEarly 45 = .ok (.iaload, 1) := by decide +kernel
theorem dX8_layEarly_46 : decode cX8_layEarly 46 = .ok (.aload_n 0, 1) := by decide +kernel
theorem dX8_layEarly_47 : decode cX8_layEarly 47 = .ok (.getfield 19, 3) := by decide +kernel
theorem dX8_layEarly_50 : decode cX8_layEarly 50 = .ok (.iload_n 1, 1) := by decide +kernel
theorem dX8_layEarly_51 : decode cX8_layEarly 51 = .ok (.iaload, 1) := by decide +kernel
theorem dX8_layEarly_52 : decode cX8_layEarly 52 = .ok (.aload_n 0, 1) := by decide +kernel
theorem dX8_layEarly_53 : decode cX8_layEarly 53 = .ok (.iload_n 1, 1) := by decide +kernel
theorem dX8_layEarly_54 : decode cX8_layEarly 54 = .ok (.aload_n 0, 1) := by decide +kernel
theorem dX8_layEarly_55 : decode cX8_layEarly 55 = .ok (.getfield 46, 3) := by decide +kernel
theorem dX8_layEarly_58 : decode cX8_layEarly 58 = .ok (.iconst 0, 1) := by decide +kernel
theorem dX8_layEarly_59 : decode cX8_layEarly 59 = .ok (.iaload, 1) := by decide +kernel
theorem dX8_layEarly_60 : decode cX8_layEarly 60 = .ok (.invokevirtual 89, 3) := by decide +kernel
theorem dX8_layEarly_63 : decode cX8_layEarly 63 = .ok (.iadd, 1) := by decide +kernel
theorem dX8_layEarly_64 : decode cX8_layEarly 64 = .ok (.if_icmp .ge 27, 3) := by decide +kernel
theorem dX8_layEarly_67 : decode cX8_layEarly 67 = .ok (.aload_n 0, 1) := by decide +kernel
theorem dX8_layEarly_68 : decode cX8_layEarly 68 = .ok (.getfield 49, 3) := by decide +kernel
theorem dX8_layEarly_71 : decode cX8_layEarly 71 = .ok (.iconst 0, 1) := by decide +kernel
theorem dX8_layEarly_72 : decode cX8_layEarly 72 = .ok (.aload_n 0, 1) := by decide +kernel
theorem dX8_layEarly_73 : decode cX8_layEarly 73 = .ok (.getfield 19, 3) := by decide +kernel
theorem dX8_layEarly_76 : decode cX8_layEarly 76 = .ok (.iload_n 1, 1) := by decide +kernel
theorem dX8_layEarly_77 : decode cX8_layEarly 77 = .ok (.iaload, 1) := by decide +kernel
theorem dX8_layEarly_78 : decode cX8_layEarly 78 = .ok (.aload_n 0, 1) := by decide +kernel
theorem dX8_layEarly_79 : decode cX8_layEarly 79 = .ok (.iload_n 1, 1) := by decide +kernel
theorem dX8_layEarly_80 : decode cX8_layEarly 80 = .ok (.aload_n 0, 1) := by decide +kernel
theorem dX8_layEarly_81 : decode cX8_layEarly 81 = .ok (.getfield 46, 3) := by decide +kernel
theorem dX8_layEarly_84 : decode cX8_layEarly 84 = .ok (.iconst 0, 1) := by decide +kernel
theorem dX8_layEarly_85 : decode cX8_layEarly 85 = .ok (.iaload, 1) := by decide +kernel
theorem dX8_layEarly_86 : decode cX8_layEarly 86 = .ok (.invokevirtual 89, 3) := by decide +kernel
theorem dX8_layEarly_89 : decode cX8_layEarly 89 = .ok (.iadd, 1) := by decide +kernel
theorem dX8_layEarly_90 : decode cX8_layEarly 90 = .ok (.iastore, 1) := by decide +kernel
theorem dX8_layEarly_91 : decode cX8_layEarly 91 = .ok (.iconst 1, 1) := by decide +kernel
theorem dX8_layEarly_92 : decode cX8_layEarly 92 = .ok (.istore_n 2, 1) := by decide +kernel
theorem dX8_layEarly_93 : decode cX8_layEarly 93 = .ok (.iconst 0, 1) := by decide +kernel
theorem dX8_layEarly_94 : decode cX8_layEarly 94 = .ok (.istore_n 3, 1) := by decide +kernel
theorem dX8_layEarly_95 : decode cX8_layEarly 95 = .ok (.iload_n 2, 1) := by decide +kernel
theorem dX8_layEarly_96 : decode cX8_layEarly 96 = .ok (.ifCond .eq 207, 3) := by decide +kernel
theorem dX8_layEarly_99 : decode cX8_layEarly 99 = .ok (.iload_n 3, 1) := by decide +kernel
theorem dX8_layEarly_100 : decode cX8_layEarly 100 = .ok (.aload_n 0, 1) := by decide +kernel
theorem dX8_layEarly_101 : decode cX8_layEarly 101 = .ok (.getfield 82, 3) := by decide +kernel
theorem dX8_layEarly_104 : decode cX8_layEarly 104 = .ok (.iconst 1, 1) := by decide +kernel
theorem dX8_layEarly_105 : decode cX8_layEarly 105 = .ok (.iadd, 1) := by decide +kernel
theorem dX8_layEarly_106 : decode cX8_layEarly 106 = .ok (.if_icmp .le 5, 3) := by decide +kernel
theorem dX8_layEarly_109 : decode cX8_layEarly 109 = .ok (.iconst 0, 1) := by decide +kernel
theorem dX8_layEarly_110 : decode cX8_layEarly 110 = .ok (.ireturn, 1) := by decide +kernel
theorem dX8_layEarly_111 : decode cX8_layEarly 111 = .ok (.iinc 3 1, 3) := by decide +kernel
theorem dX8_layEarly_114 : decode cX8_layEarly 114 = .ok (.iconst 0, 1) := by decide +kernel
theorem dX8_layEarly_115 : decode cX8_layEarly 115 = .ok (.istore_n 2, 1) := by decide +kernel
theorem dX8_layEarly_116 : decode cX8_layEarly 116 = .ok (.iconst 0, 1) := by decide +kernel
theorem dX8_layEarly_117 : decode cX8_layEarly 117 = .ok (.istore 4, 2) := by decide +kernel
theorem dX8_layEarly_119 : decode cX8_layEarly 119 = .ok (.iload 4, 2) := by decide +kernel
theorem dX8_layEarly_121 : decode cX8_layEarly 121 = .ok (.aload_n 0, 1) := by decide +kernel
theorem dX8_layEarly_122 : decode cX8_layEarly 122 = .ok (.getfield 82, 3) := by decide +kernel
theorem dX8_layEarly_125 : decode cX8_layEarly 125 = .ok (.if_icmp .ge 175, 3) := by decide +kernel
theorem dX8_layEarly_128 : decode cX8_layEarly 128 = .ok (.iload 4, 2) := by decide +kernel
theorem dX8_layEarly_130 : decode cX8_layEarly 130 = .ok (.ifCond .ne 12, 3) := by decide +kernel
theorem dX8_layEarly_133 : decode cX8_layEarly 133 = .ok (.aload_n 0, 1) := by decide +kernel
theorem dX8_layEarly_134 : decode cX8_layEarly 134 = .ok (.getfield 49, 3) := by decide +kernel
theorem dX8_layEarly_137 : decode cX8_layEarly 137 = .ok (.iconst 0, 1) := by decide +kernel
theorem dX8_layEarly_138 : decode cX8_layEarly 138 = .ok (.iaload, 1) := by decide +kernel
theorem dX8_layEarly_139 : decode cX8_layEarly 139 = .ok (.goto 38, 3) := by decide +kernel
theorem dX8_layEarly_142 : decode cX8_layEarly 142 = .ok (.aload_n 0, 1) := by decide +kernel
theorem dX8_layEarly_143 : decode cX8_layEarly 143 = .ok (.getfield 49, 3) := by decide +kernel
theorem dX8_layEarly_146 : decode cX8_layEarly 146 = .ok (.iload 4, 2) := by decide +kernel
theorem dX8_layEarly_148 : decode cX8_layEarly 148 = .ok (.iconst 1, 1) := by decide +kernel
theorem dX8_layEarly_149 : decode cX8_layEarly 149 = .ok (.isub, 1) := by decide +kernel
theorem dX8_layEarly_150 : decode cX8_layEarly 150 = .ok (.iaload, 1) := by decide +kernel
theorem dX8_layEarly_151 : decode cX8_layEarly 151 = .ok (.aload_n 0, 1) := by decide +kernel
theorem dX8_layEarly_152 : decode cX8_layEarly 152 = .ok (.getfield 61, 3) := by decide +kernel
theorem dX8_layEarly_155 : decode cX8_layEarly 155 = .ok (.iadd, 1) := by decide +kernel
theorem dX8_layEarly_156 : decode cX8_layEarly 156 = .ok (.aload_n 0, 1) := by decide +kernel
theorem dX8_layEarly_157 : decode cX8_layEarly 157 = .ok (.aload_n 0, 1) := by decide +kernel
theorem dX8_layEarly_158 : decode cX8_layEarly 158 = .ok (.getfield 46, 3) := by decide +kernel
theorem dX8_layEarly_161 : decode cX8_layEarly 161 = .ok (.iload 4, 2) := by decide +kernel
theorem dX8_layEarly_163 : decode cX8_layEarly 163 = .ok (.iconst 1, 1) := by decide +kernel
theorem dX8_layEarly_164 : decode cX8_layEarly 164 = .ok (.isub, 1) := by decide +kernel
theorem dX8_layEarly_165 : decode cX8_layEarly 165 = .ok (.iaload, 1) := by decide +kernel
theorem dX8_layEarly_166 : decode cX8_layEarly 166 = .ok (.aload_n 0, 1) := by decide +kernel
theorem dX8_layEarly_167 : decode cX8_layEarly 167 = .ok (.getfield 46, 3) := by decide +kernel
theorem dX8_layEarly_170 : decode cX8_layEarly 170 = .ok (.iload 4, 2) := by decide +kernel
theorem dX8_layEarly_172 : decode cX8_layEarly 172 = .ok (.iaload, 1) := by decide +kernel
theorem dX8_layEarly_173 : decode cX8_layEarly 173 = .ok (.invokevirtual 93, 3) := by decide +kernel
theorem dX8_layEarly_176 : decode cX8_layEarly 176 = .ok (.iadd, 1) := by decide +kernel
theorem dX8_layEarly_177 : decode cX8_layEarly 177 = .ok (.istore 5, 2) := by decide +kernel
theorem dX8_layEarly_179 : decode cX8_layEarly 179 = .ok (.aload_n 0, 1) := by decide +kernel
theorem dX8_layEarly_180 : decode cX8_layEarly 180 = .ok (.getfield 46, 3) := by decide +kernel
theorem dX8_layEarly_183 : decode cX8_layEarly 183 = .ok (.iload 4, 2) := by decide +kernel
theorem dX8_layEarly_185 : decode cX8_layEarly 185 = .ok (.iaload, 1) := by decide +kernel
theorem dX8_layEarly_186 : decode cX8_layEarly 186 = .ok (.iconst 2, 1) := by decide +kernel
theorem dX8_layEarly_187 : decode cX8_layEarly 187 = .ok (.irem, 1) := by decide +kernel
theorem dX8_layEarly_188 : decode cX8_layEarly 188 = .ok (.ifCond .ne 59, 3) := by decide +kernel
theorem dX8_layEarly_191 : decode cX8_layEarly 191 = .ok (.aload_n 0, 1) := by decide +kernel
theorem dX8_layEarly_192 : decode cX8_layEarly 192 = .ok (.getfield 49, 3) := by decide +kernel
theorem dX8_layEarly_195 : decode cX8_layEarly 195 = .ok (.aload_n 0, 1) := by decide +kernel
theorem dX8_layEarly_196 : decode cX8_layEarly 196 = .ok (.aload_n 0, 1) := by decide +kernel
theorem dX8_layEarly_197 : decode cX8_layEarly 197 = .ok (.getfield 46, 3) := by decide +kernel
theorem dX8_layEarly_200 : decode cX8_layEarly 200 = .ok (.iload 4, 2) := by decide +kernel
theorem dX8_layEarly_202 : decode cX8_layEarly 202 = .ok (.iaload, 1) := by decide +kernel
theorem dX8_layEarly_203 : decode cX8_layEarly 203 = .ok (.iconst 1, 1) := by decide +kernel
theorem dX8_layEarly_204 : decode cX8_layEarly 204 = .ok (.iadd, 1) := by decide +kernel
theorem dX8_layEarly_205 : decode cX8_layEarly 205 = .ok (.invokevirtual 96, 3) := by decide +kernel
theorem dX8_layEarly_208 : decode cX8_layEarly 208 = .ok (.iaload, 1) := by decide +kernel
theorem dX8_layEarly_209 : decode cX8_layEarly 209 = .ok (.aload_n 0, 1) := by decide +kernel
theorem dX8_layEarly_210 : decode cX8_layEarly 210 = .ok (.getfield 40, 3) := by decide +kernel
theorem dX8_layEarly_213 : decode cX8_layEarly 213 = .ok (.aload_n 0, 1) := by decide +kernel
theorem dX8_layEarly_214 : decode cX8_layEarly 214 = .ok (.getfield 46, 3) := by decide +kernel
theorem dX8_layEarly_217 : decode cX8_layEarly 217 = .ok (.iload 4, 2) := by decide +kernel
theorem dX8_layEarly_219 : decode cX8_layEarly 219 = .ok (.iaload, 1) := by decide +kernel
theorem dX8_layEarly_220 : decode cX8_layEarly 220 = .ok (.iconst 2, 1) := by decide +kernel
theorem dX8_layEarly_221 : decode cX8_layEarly 221 = .ok (.idiv, 1) := by decide +kernel
theorem dX8_layEarly_222 : decode cX8_layEarly 222 = .ok (.iaload, 1) := by decide +kernel
theorem dX8_layEarly_223 : decode cX8_layEarly 223 = .ok (.isub, 1) := by decide +kernel
theorem dX8_layEarly_224 : decode cX8_layEarly 224 = .ok (.aload_n 0, 1) := by decide +kernel
theorem dX8_layEarly_225 : decode cX8_layEarly 225 = .ok (.getfield 61, 3) := by decide +kernel
theorem dX8_layEarly_228 : decode cX8_layEarly 228 = .ok (.isub, 1) := by decide +kernel
theorem dX8_layEarly_229 : decode cX8_layEarly 229 = .ok (.istore 6, 2) := by decide +kernel
theorem dX8_layEarly_231 : decode cX8_layEarly 231 = .ok (.iload 6, 2) := by decide +kernel
theorem dX8_layEarly_233 : decode cX8_layEarly 233 = .ok (.iload 5, 2) := by decide +kernel
theorem dX8_layEarly_235 : decode cX8_layEarly 235 = .ok (.if_icmp .le 8, 3) := by decide +kernel
theorem dX8_layEarly_238 : decode cX8_layEarly 238 = .ok (.iload 6, 2) := by decide +kernel
theorem dX8_layEarly_240 : decode cX8_layEarly 240 = .ok (.goto 5, 3) := by decide +kernel
theorem dX8_layEarly_243 : decode cX8_layEarly 243 = .ok (.iload 5, 2) := by decide +kernel
theorem dX8_layEarly_245 : decode cX8_layEarly 245 = .ok (.istore 5, 2) := by decide +kernel
theorem dX8_layEarly_247 : decode cX8_layEarly 247 = .ok (.iload 5, 2) := by decide +kernel
theorem dX8_layEarly_249 : decode cX8_layEarly 249 = .ok (.aload_n 0, 1) := by decide +kernel
theorem dX8_layEarly_250 : decode cX8_layEarly 250 = .ok (.getfield 49, 3) := by decide +kernel
theorem dX8_layEarly_253 : decode cX8_layEarly 253 = .ok (.iload 4, 2) := by decide +kernel
theorem dX8_layEarly_255 : decode cX8_layEarly 255 = .ok (.iaload, 1) := by decide +kernel
theorem dX8_layEarly_256 : decode cX8_layEarly 256 = .ok (.if_icmp .le 14, 3) := by decide +kernel
theorem dX8_layEarly_259 : decode cX8_layEarly 259 = .ok (.aload_n 0, 1) := by decide +kernel
theorem dX8_layEarly_260 : decode cX8_layEarly 260 = .ok (.getfield 49, 3) := by decide +kernel
theorem dX8_layEarly_263 : decode cX8_layEarly 263 = .ok (.iload 4, 2) := by decide +kernel
theorem dX8_layEarly_265 : decode cX8_layEarly 265 = .ok (.iload 5, 2) := by decide +kernel
theorem dX8_layEarly_267 : decode cX8_layEarly 267 = .ok (.iastore, 1) := by decide +kernel
theorem dX8_layEarly_268 : decode cX8_layEarly 268 = .ok (.iconst 1, 1) := by decide +kernel
theorem dX8_layEarly_269 : decode cX8_layEarly 269 = .ok (.istore_n 2, 1) := by decide +kernel
theorem dX8_layEarly_270 : decode cX8_layEarly 270 = .ok (.aload_n 0, 1) := by decide +kernel
theorem dX8_layEarly_271 : decode cX8_layEarly 271 = .ok (.getfield 49, 3) := by decide +kernel
theorem dX8_layEarly_274 : decode cX8_layEarly 274 = .ok (.iload 4, 2) := by decide +kernel
theorem dX8_layEarly_276 : decode cX8_layEarly 276 = .ok (.iaload, 1) := by decide +kernel
theorem dX8_layEarly_277 : decode cX8_layEarly 277 = .ok (.aload_n 0, 1) := by decide +kernel
theorem dX8_layEarly_278 : decode cX8_layEarly 278 = .ok (.getfield 34, 3) := by decide +kernel
theorem dX8_layEarly_281 : decode cX8_layEarly 281 = .ok (.aload_n 0, 1) := by decide +kernel
theorem dX8_layEarly_282 : decode cX8_layEarly 282 = .ok (.getfield 46, 3) := by decide +kernel
theorem dX8_layEarly_285 : decode cX8_layEarly 285 = .ok (.iload 4, 2) := by decide +kernel
theorem dX8_layEarly_287 : decode cX8_layEarly 287 = .ok (.iaload, 1) := by decide +kernel
theorem dX8_layEarly_288 : decode cX8_layEarly 288 = .ok (.iaload, 1) := by decide +kernel
theorem dX8_layEarly_289 : decode cX8_layEarly 289 = .ok (.if_icmp .le 5, 3) := by decide +kernel
theorem dX8_layEarly_292 : decode cX8_layEarly 292 = .ok (.iconst 0, 1) := by decide +kernel
theorem dX8_layEarly_293 : decode cX8_layEarly 293 = .ok (.ireturn, 1) := by decide +kernel
theorem dX8_layEarly_294 : decode cX8_layEarly 294 = .ok (.iinc 4 1, 3) := by decide +kernel
theorem dX8_layEarly_297 : decode cX8_layEarly 297 = .ok (.goto (-178), 3) := by decide +kernel
theorem dX8_layEarly_300 : decode cX8_layEarly 300 = .ok (.goto (-205), 3) := by decide +kernel
theorem dX8_layEarly_303 : decode cX8_layEarly 303 = .ok (.aload_n 0, 1) := by decide +kernel
theorem dX8_layEarly_304 : decode cX8_layEarly 304 = .ok (.getfield 82, 3) := by decide +kernel
theorem dX8_layEarly_307 : decode cX8_layEarly 307 = .ok (.ifCond .eq 45, 3) := by decide +kernel
theorem dX8_layEarly_310 : decode cX8_layEarly 310 = .ok (.aload_n 0, 1) := by decide +kernel
theorem dX8_layEarly_311 : decode cX8_layEarly 311 = .ok (.getfield 49, 3) := by decide +kernel
theorem dX8_layEarly_314 : decode cX8_layEarly 314 = .ok (.aload_n 0, 1) := by decide +kernel
theorem dX8_layEarly_315 : decode cX8_layEarly 315 = .ok (.getfield 82, 3) := by decide +kernel
theorem dX8_layEarly_318 : decode cX8_layEarly 318 = .ok (.iconst 1, 1) := by decide +kernel
theorem dX8_layEarly_319 : decode cX8_layEarly 319 = .ok (.isub, 1) := by decide +kernel
theorem dX8_layEarly_320 : decode cX8_layEarly 320 = .ok (.iaload, 1) := by decide +kernel
theorem dX8_layEarly_321 : decode cX8_layEarly 321 = .ok (.aload_n 0, 1) := by decide +kernel
theorem dX8_layEarly_322 : decode cX8_layEarly 322 = .ok (.getfield 61, 3) := by decide +kernel
theorem dX8_layEarly_325 : decode cX8_layEarly 325 = .ok (.iadd, 1) := by decide +kernel
theorem dX8_layEarly_326 : decode cX8_layEarly 326 = .ok (.aload_n 0, 1) := by decide +kernel
theorem dX8_layEarly_327 : decode cX8_layEarly 327 = .ok (.iload_n 1, 1) := by decide +kernel
theorem dX8_layEarly_328 : decode cX8_layEarly 328 = .ok (.aload_n 0, 1) := by decide +kernel
theorem dX8_layEarly_329 : decode cX8_layEarly 329 = .ok (.getfield 46, 3) := by decide +kernel
theorem dX8_layEarly_332 : decode cX8_layEarly 332 = .ok (.aload_n 0, 1) := by decide +kernel
theorem dX8_layEarly_333 : decode cX8_layEarly 333 = .ok (.getfield 82, 3) := by decide +kernel
theorem dX8_layEarly_336 : decode cX8_layEarly 336 = .ok (.iconst 1, 1) := by decide +kernel
theorem dX8_layEarly_337 : decode cX8_layEarly 337 = .ok (.isub, 1) := by decide +kernel
theorem dX8_layEarly_338 : decode cX8_layEarly 338 = .ok (.iaload, 1) := by decide +kernel
theorem dX8_layEarly_339 : decode cX8_layEarly 339 = .ok (.invokevirtual 89, 3) := by decide +kernel
theorem dX8_layEarly_342 : decode cX8_layEarly 342 = .ok (.iadd, 1) := by decide +kernel
theorem dX8_layEarly_343 : decode cX8_layEarly 343 = .ok (.aload_n 0, 1) := by decide +kernel
theorem dX8_layEarly_344 : decode cX8_layEarly 344 = .ok (.getfield 22, 3) := by decide +kernel
theorem dX8_layEarly_347 : decode cX8_layEarly 347 = .ok (.iload_n 1, 1) := by decide +kernel
theorem dX8_layEarly_348 : decode cX8_layEarly 348 = .ok (.iaload, 1) := by decide +kernel
theorem dX8_layEarly_349 : decode cX8_layEarly 349 = .ok (.if_icmp .gt 7, 3) := by decide +kernel
theorem dX8_layEarly_352 : decode cX8_layEarly 352 = .ok (.iconst 1, 1) := by decide +kernel
theorem dX8_layEarly_353 : decode cX8_layEarly 353 = .ok (.goto 4, 3) := by decide +kernel
theorem dX8_layEarly_356 : decode cX8_layEarly 356 = .ok (.iconst 0, 1) := by decide +kernel
theorem dX8_layEarly_357 : decode cX8_layEarly 357 = .ok (.ireturn, 1) := by decide +kernel
theorem dX8_layLate_0 : decode cX8_layLate 0 = .ok (.iconst 0, 1) := by decide +kernel
theorem dX8_layLate_1 : decode cX8_layLate 1 = .ok (.istore_n 2, 1) := by decide +kernel
theorem dX8_layLate_2 : decode cX8_layLate 2 = .ok (.iload_n 2, 1) := by decide +kernel
theorem dX8_layLate_3 : decode cX8_layLate 3 = .ok (.aload_n 0, 1) := by decide +kernel
theorem dX8_layLate_4 : decode cX8_layLate 4 = .ok (.getfield 82, 3) := by decide +kernel
theorem dX8_layLate_7 : decode cX8_layLate 7 = .ok (.if_icmp .ge 26, 3) := by decide +kernel
theorem dX8_layLate_10 : decode cX8_layLate 10 = .ok (.aload_n 0, 1) := by decide +kernel
theorem dX8_layLate_11 : decode cX8_layLate 11 = .ok (.getfield 52, 3) := by decide +kernel
theorem dX8_layLate_14 : decode cX8_layLate 14 = .ok (.iload_n 2, 1) := by decide +kernel
theorem dX8_layLate_15 : decode cX8_layLate 15 = .ok (.aload_n 0, 1) := by decide +kernel
theorem dX8_layLate_16 : decode cX8_layLate 16 = .ok (.getfield 34, 3) := by decide +kernel
theorem dX8_layLate_19 : decode cX8_layLate 19 = .ok (.aload_n 0, 1) := by decide +kernel
theorem dX8_layLate_20 : decode cX8_layLate 20 = .ok (.getfield 46, 3) := by decide +kernel
theorem dX8_layLate_23 : decode cX8_layLate 23 = .ok (.iload_n 2, 1) := by decide +kernel
theorem dX8_layLate_24 : decode cX8_layLate 24 = .ok (.iaload, 1) := by decide +kernel
theorem dX8_layLate_25 : decode cX8_layLate 25 = .ok (.iaload, 1) := by decide +kernel
theorem dX8_layLate_26 : decode cX8_layLate 26 = .ok (.iastore, 1) := by decide +kernel
theorem dX8_layLate_27 : decode cX8_layLate 27 = .ok (.iinc 2 1, 3) := by decide +kernel
theorem dX8_layLate_30 : decode cX8_layLate 30 = .ok (.goto (-28), 3) := by decide +kernel
theorem dX8_layLate_33 : decode cX8_layLate 33 = .ok (.aload_n 0, 1) := by decide +kernel
theorem dX8_layLate_34 : decode cX8_layLate 34 = .ok (.getfield 82, 3) := by decide +kernel
theorem dX8_layLate_37 : decode cX8_layLate 37 = .ok (.ifCond .ne 7, 3) := by decide +kernel
theorem dX8_layLate_40 : decode cX8_layLate 40 = .ok (.iconst 0, 1) := by decide +kernel
theorem dX8_layLate_41 : decode cX8_layLate 41 = .ok (.goto 31, 3) := by decide +kernel
theorem dX8_layLate_44 : decode cX8_layLate 44 = .ok (.aload_n 0, 1) := by decide +kernel
theorem dX8_layLate_45 : decode cX8_layLate 45 = .ok (.getfield 22, 3) := by decide +kernel
theorem dX8_layLate_48 : decode cX8_layLate 48 = .ok (.iload_n 1, 1) := by decide +kernel
theorem dX8_layLate_49 : decode cX8_layLate 49 = .ok (.iaload, 1) := by decide +kernel
theorem dX8_layLate_50 : decode cX8_layLate 50 = .ok (.aload_n 0, 1) := by decide +kernel
theorem dX8_layLate_51 : decode cX8_layLate 51 = .ok (.getfield 61, 3) := by decide +kernel
theorem dX8_layLate_54 : decode cX8_layLate 54 = .ok (.isub, 1) := by decide +kernel
theorem dX8_layLate_55 : decode cX8_layLate 55 = .ok (.aload_n 0, 1) := by decide +kernel
theorem dX8_layLate_56 : decode cX8_layLate 56 = .ok (.iload_n 1, 1) := by decide +kernel
theorem dX8_layLate_57 : decode cX8_layLate 57 = .ok (.aload_n 0, 1) := by decide +kernel
theorem dX8_layLate_58 : decode cX8_layLate 58 = .ok (.getfield 46, 3) := by decide +kernel
theorem dX8_layLate_61 : decode cX8_layLate 61 = .ok (.aload_n 0, 1) := by decide +kernel
theorem dX8_layLate_62 : decode cX8_layLate 62 = .ok (.getfield 82, 3) := by decide +kernel
theorem dX8_layLate_65 : decode cX8_layLate 65 = .ok (.iconst 1, 1) := by decide +kernel
theorem dX8_layLate_66 : decode cX8_layLate 66 = .ok (.isub, 1) := by decide +kernel
theorem dX8_layLate_67 : decode cX8_layLate 67 = .ok (.iaload, 1) := by decide +kernel
theorem dX8_layLate_68 : decode cX8_layLate 68 = .ok (.invokevirtual 89, 3) := by decide +kernel
theorem dX8_layLate_71 : decode cX8_layLate 71 = .ok (.isub, 1) := by decide +kernel
theorem dX8_layLate_72 : decode cX8_layLate 72 = .ok (.istore_n 2, 1) := by decide +kernel
theorem dX8_layLate_73 : decode cX8_layLate 73 = .ok (.aload_n 0, 1) := by decide +kernel
theorem dX8_layLate_74 : decode cX8_layLate 74 = .ok (.getfield 82, 3) := by decide +kernel
theorem dX8_layLate_77 : decode cX8_layLate 77 = .ok (.ifCond .le 30, 3) := by decide +kernel
theorem dX8_layLate_80 : decode cX8_layLate 80 = .ok (.aload_n 0, 1) := by decide +kernel
theorem dX8_layLate_81 : decode cX8_layLate 81 = .ok (.getfield 52, 3) := by decide +kernel
theorem dX8_layLate_84 : decode cX8_layLate 84 = .ok (.aload_n 0, 1) := by decide +kernel
theorem dX8_layLate_85 : decode cX8_layLate 85 = .ok (.getfield 82, 3) := by decide +kernel
theorem dX8_layLate_88 : decode cX8_layLate 88 = .ok (.iconst 1, 1) := by decide +kernel
theorem dX8_layLate_89 : decode cX8_layLate 89 = .ok (.isub, 1) := by decide +kernel
theorem dX8_layLate_90 : decode cX8_layLate 90 = .ok (.iaload, 1) := by decide +kernel
theorem dX8_layLate_91 : decode cX8_layLate 91 = .ok (.iload_n 2, 1) := by decide +kernel
theorem dX8_layLate_92 : decode cX8_layLate 92 = .ok (.if_icmp .le 15, 3) := by decide +kernel
theorem dX8_layLate_95 : decode cX8_layLate 95 = .ok (.aload_n 0, 1) := by decide +kernel
theorem dX8_layLate_96 : decode cX8_layLate 96 = .ok (.getfield 52, 3) := by decide +kernel
theorem dX8_layLate_99 : decode cX8_layLate 99 = .ok (.aload_n 0, 1) := by decide +kernel
theorem dX8_layLate_100 : decode cX8_layLate 100 = .ok (.getfield 82, 3) := by decide +kernel
theorem dX8_layLate_103 : decode cX8_layLate 103 = .ok (.iconst 1, 1) := by decide +kernel
theorem dX8_layLate_104 : decode cX8_layLate 104 = .ok (.isub, 1) := by decide +kernel
theorem dX8_layLate_105 : decode cX8_layLate 105 = .ok (.iload_n 2, 1) := by decide +kernel
theorem dX8_layLate_106 : decode cX8_layLate 106 = .ok (.iastore, 1) := by decide +kernel
theorem dX8_layLate_107 : decode cX8_layLate 107 = .ok (.iconst 1, 1) := by decide +kernel
theorem dX8_layLate_108 : decode cX8_layLate 108 = .ok (.istore_n 3, 1) := by decide +kernel
theorem dX8_layLate_109 : decode cX8_layLate 109 = .ok (.iload_n 3, 1) := by decide +kernel
theorem dX8_layLate_110 : decode cX8_layLate 110 = .ok (.ifCond .eq 177, 3) := by decide +kernel
theorem dX8_layLate_113 : decode cX8_layLate 113 = .ok (.iconst 0, 1) := by decide +kernel
theorem dX8_layLate_114 : decode cX8_layLate 114 = .ok (.istore_n 3, 1) := by decide +kernel
theorem dX8_layLate_115 : decode cX8_layLate 115 = .ok (.aload_n 0, 1) := by decide +kernel
theorem dX8_layLate_116 : decode cX8_layLate 116 = .ok (.getfield 82, 3) := by decide +kernel
theorem dX8_layLate_119 : decode cX8_layLate 119 = .ok (.iconst 1, 1) := by decide +kernel
theorem dX8_layLate_120 : decode cX8_layLate 120 = .ok (.isub, 1) := by decide +kernel
theorem dX8_layLate_121 : decode cX8_layLate 121 = .ok (.istore 4, 2) := by decide +kernel
theorem dX8_layLate_123 : decode cX8_layLate 123 = .ok (.iload 4, 2) := by decide +kernel
theorem dX8_layLate_125 : decode cX8_layLate 125 = .ok (.ifCond .lt 159, 3) := by decide +kernel
theorem dX8_layLate_128 : decode cX8_layLate 128 = .ok (.iload 4, 2) := by decide +kernel
theorem dX8_layLate_130 : decode cX8_layLate 130 = .ok (.aload_n 0, 1) := by decide +kernel
theorem dX8_layLate_131 : decode cX8_layLate 131 = .ok (.getfield 82, 3) := by decide +kernel
theorem dX8_layLate_134 : decode cX8_layLate 134 = .ok (.iconst 1, 1) := by decide +kernel
theorem dX8_layLate_135 : decode cX8_layLate 135 = .ok (.isub, 1) := by decide +kernel
theorem dX8_layLate_136 : decode cX8_layLate 136 = .ok (.if_icmp .ne 13, 3) := by decide +kernel
theorem dX8_layLate_139 : decode cX8_layLate 139 = .ok (.aload_n 0, 1) := by decide +kernel
theorem dX8_layLate_140 : decode cX8_layLate 140 = .ok (.getfield 52, 3) := by decide +kernel
theorem dX8_layLate_143 : decode cX8_layLate 143 = .ok (.iload 4, 2) := by decide +kernel
theorem dX8_layLate_145 : decode cX8_layLate 145 = .ok (.iaload, 1) := by decide +kernel
theorem dX8_layLate_146 : decode cX8_layLate 146 = .ok (.goto 38, 3) := by decide +kernel
theorem dX8_layLate_149 : decode cX8_layLate 149 = .ok (.aload_n 0, 1) := by decide +kernel
theorem dX8_layLate_150 : decode cX8_layLate 150 = .ok (.getfield 52, 3) := by decide +kernel
theorem dX8_layLate_153 : decode cX8_layLate 153 = .ok (.iload 4, 2) := by decide +kernel
theorem dX8_layLate_155 : decode cX8_layLate 155 = .ok (.iconst 1, 1) := by decide +kernel
theorem dX8_layLate_156 : decode cX8_layLate 156 = .ok (.iadd, 1) := by decide +kernel
theorem dX8_layLate_157 : decode cX8_layLate 157 = .ok (.iaload, 1) := by decide +kernel
theorem dX8_layLate_158 : decode cX8_layLate 158 = .ok (.aload_n 0, 1) := by decide +kernel
theorem dX8_layLate_159 : decode cX8_layLate 159 = .ok (.getfield 61, 3) := by decide +kernel
theorem dX8_layLate_162 : decode cX8_layLate 162 = .ok (.isub, 1) := by decide +kernel
theorem dX8_layLate_163 : decode cX8_layLate 163 = .ok (.aload_n 0, 1) := by decide +kernel
theorem dX8_layLate_164 : decode cX8_layLate 164 = .ok (.aload_n 0, 1) := by decide +kernel
theorem dX8_layLate_165 : decode cX8_layLate 165 = .ok (.getfield 46, 3) := by decide +kernel
theorem dX8_layLate_168 : decode cX8_layLate 168 = .ok (.iload 4, 2) := by decide +kernel
theorem dX8_layLate_170 : decode cX8_layLate 170 = .ok (.iaload, 1) := by decide +kernel
theorem dX8_layLate_171 : decode cX8_layLate 171 = .ok (.aload_n 0, 1) := by decide +kernel
theorem dX8_layLate_172 : decode cX8_layLate 172 = .ok (.getfield 46, 3) := by decide +kernel
theorem dX8_layLate_175 : decode cX8_layLate 175 = .ok (.iload 4, 2) := by decide +kernel
theorem dX8_layLate_177 : decode cX8_layLate 177 = .ok (.iconst 1, 1) := by decide +kernel
theorem dX8_layLate_178 : decode cX8_layLate 178 = .ok (.iadd, 1) := by decide +kernel
theorem dX8_layLate_179 : decode cX8_layLate 179 = .ok (.iaload, 1) := by decide +kernel
theorem dX8_layLate_180 : decode cX8_layLate 180 = .ok (.invokevirtual 93, 3) := by decide +kernel
theorem dX8_layLate_183 : decode cX8_layLate 183 = .ok (.isub, 1) := by decide +kernel
theorem dX8_layLate_184 : decode cX8_layLate 184 = .ok (.istore 5, 2) := by decide +kernel
theorem dX8_layLate_186 : decode cX8_layLate 186 = .ok (.aload_n 0, 1) := by decide +kernel
theorem dX8_layLate_187 : decode cX8_layLate 187 = .ok (.getfield 46, 3) := by decide +kernel
theorem dX8_layLate_190 : decode cX8_layLate 190 = .ok (.iload 4, 2) := by decide +kernel
theorem dX8_layLate_192 : decode cX8_layLate 192 = .ok (.iaload, 1) := by decide +kernel
theorem dX8_layLate_193 : decode cX8_layLate 193 = .ok (.iconst 2, 1) := by decide +kernel
theorem dX8_layLate_194 : decode cX8_layLate 194 = .ok (.irem, 1) := by decide +kernel
theorem dX8_layLate_195 : decode cX8_layLate 195 = .ok (.iconst 1, 1) := by decide +kernel
theorem dX8_layLate_196 : decode cX8_layLate 196 = .ok (.if_icmp .ne 59, 3) := by decide +kernel
theorem dX8_layLate_199 : decode cX8_layLate 199 = .ok (.aload_n 0, 1) := by decide +kernel
theorem dX8_layLate_200 : decode cX8_layLate 200 = .ok (.getfield 52, 3) := by decide +kernel
theorem dX8_layLate_203 : decode cX8_layLate 203 = .ok (.aload_n 0, 1) := by decide +kernel
theorem dX8_layLate_204 : decode cX8_layLate 204 = .ok (.aload_n 0, 1) := by decide +kernel
theorem dX8_layLate_205 : decode cX8_layLate 205 = .ok (.getfield 46, 3) := by decide +kernel
theorem dX8_layLate_208 : decode cX8_layLate 208 = .ok (.iload 4, 2) := by decide +kernel
theorem dX8_layLate_210 : decode cX8_layLate 210 = .ok (.iaload, 1) := by decide +kernel
theorem dX8_layLate_211 : decode cX8_layLate 211 = .ok (.iconst 1, 1) := by decide +kernel
theorem dX8_layLate_212 : decode cX8_layLate 212 = .ok (.isub, 1) := by decide +kernel
theorem dX8_layLate_213 : decode cX8_layLate 213 = .ok (.invokevirtual 96, 3) := by decide +kernel
theorem dX8_layLate_216 : decode cX8_layLate 216 = .ok (.iaload, 1) := by decide +kernel
theorem dX8_layLate_217 : decode cX8_layLate 217 = .ok (.aload_n 0, 1) := by decide +kernel
theorem dX8_layLate_218 : decode cX8_layLate 218 = .ok (.getfield 61, 3) := by decide +kernel
theorem dX8_layLate_221 : decode cX8_layLate 221 = .ok (.iadd, 1) := by decide +kernel
theorem dX8_layLate_222 : decode cX8_layLate 222 = .ok (.aload_n 0, 1) := by decide +kernel
theorem dX8_layLate_223 : decode cX8_layLate 223 = .ok (.getfield 40, 3) := by decide +kernel
theorem dX8_layLate_226 : decode cX8_layLate 226 = .ok (.aload_n 0, 1) := by decide +kernel
theorem dX8_layLate_227 : decode cX8_layLate 227 = .ok (.getfield 46, 3) := by decide +kernel
theorem dX8_layLate_230 : decode cX8_layLate 230 = .ok (.iload 4, 2) := by decide +kernel
theorem dX8_layLate_232 : decode cX8_layLate 232 = .ok (.iaload, 1) := by decide +kernel
theorem dX8_layLate_233 : decode cX8_layLate 233 = .ok (.iconst 2, 1) := by decide +kernel
theorem dX8_layLate_234 : decode cX8_layLate 234 = .ok (.idiv, 1) := by decide +kernel
theorem dX8_layLate_235 : decode cX8_layLate 235 = .ok (.iaload, 1) := by decide +kernel
theorem dX8_layLate_236 : decode cX8_layLate 236 = .ok (.iadd, 1) := by decide +kernel
theorem dX8_layLate_237 : decode cX8_layLate 237 = .ok (.istore 6, 2) := by decide +kernel
theorem dX8_layLate_239 : decode cX8_layLate 239 = .ok (.iload 6, 2) := by decide +kernel
theorem dX8_layLate_241 : decode cX8_layLate 241 = .ok (.iload 5, 2) := by decide +kernel
theorem dX8_layLate_243 : decode cX8_layLate 243 = .ok (.if_icmp .ge 8, 3) := by decide +kernel
theorem dX8_layLate_246 : decode cX8_layLate 246 = .ok (.iload 6, 2) := by decide +kernel
theorem dX8_layLate_248 : decode cX8_layLate 248 = .ok (.goto 5, 3) := by decide +kernel
theorem dX8_layLate_251 : decode cX8_layLate 251 = .ok (.iload 5, 2) := by decide +kernel
theorem dX8_layLate_253 : decode cX8_layLate 253 = .ok (.istore 5, 2) := by decide +kernel
theorem dX8_layLate_255 : decode cX8_layLate 255 = .ok (.iload 5, 2) := by decide +kernel
theorem dX8_layLate_257 : decode cX8_layLate 257 = .ok (.aload_n 0, 1) := by decide +kernel
theorem dX8_layLate_258 : decode cX8_layLate 258 = .ok (.getfield 52, 3) := by decide +kernel
theorem dX8_layLate_261 : decode cX8_layLate 261 = .ok (.iload 4, 2) := by decide +kernel
theorem dX8_layLate_263 : decode cX8_layLate 263 = .ok (.iaload, 1) := by decide +kernel
theorem dX8_layLate_264 : decode cX8_layLate 264 = .ok (.if_icmp .ge 14, 3) := by decide +kernel
theorem dX8_layLate_267 : decode cX8_layLate 267 = .ok (.aload_n 0, 1) := by decide +kernel
theorem dX8_layLate_268 : decode cX8_layLate 268 = .ok (.getfield 52, 3) := by decide +kernel
theorem dX8_layLate_271 : decode cX8_layLate 271 = .ok (.iload 4, 2) := by decide +kernel
theorem dX8_layLate_273 : decode cX8_layLate 273 = .ok (.iload 5, 2) := by decide +kernel
theorem dX8_layLate_275 : decode cX8_layLate 275 = .ok (.iastore, 1) := by decide +kernel
theorem dX8_layLate_276 : decode cX8_layLate 276 = .ok (.iconst 1, 1) := by decide +kernel
theorem dX8_layLate_277 : decode cX8_layLate 277 = .ok (.istore_n 3, 1) := by decide +kernel
theorem dX8_layLate_278 : decode cX8_layLate 278 = .ok (.iinc 4 (-1), 3) := by decide +kernel
theorem dX8_layLate_281 : decode cX8_layLate 281 = .ok (.goto (-158), 3) := by decide +kernel
theorem dX8_layLate_284 : decode cX8_layLate 284 = .ok (.goto (-175), 3) := by decide +kernel
theorem dX8_layLate_287 : decode cX8_layLate 287 = .ok (.return_, 1) := by decide +kernel
theorem dX8_isFeasible_0 : decode cX8_isFeasible 0 = .ok (.aload_n 0, 1) := by decide +kernel
theorem dX8_isFeasible_1 : decode cX8_isFeasible 1 = .ok (.invokevirtual 99, 3) := by decide +kernel
theorem dX8_isFeasible_4 : decode cX8_isFeasible 4 = .ok (.aload_n 0, 1) := by decide +kernel
theorem dX8_isFeasible_5 : decode cX8_isFeasible 5 = .ok (.getfield 16, 3) := by decide +kernel
theorem dX8_isFeasible_8 : decode cX8_isFeasible 8 = .ok (.iload_n 1, 1) := by decide +kernel
theorem dX8_isFeasible_9 : decode cX8_isFeasible 9 = .ok (.iaload, 1) := by decide +kernel
theorem dX8_isFeasible_10 : decode cX8_isFeasible 10 = .ok (.if_icmp .gt 15, 3) := by decide +kernel
theorem dX8_isFeasible_13 : decode cX8_isFeasible 13 = .ok (.aload_n 0, 1) := by decide +kernel
theorem dX8_isFeasible_14 : decode cX8_isFeasible 14 = .ok (.iload_n 1, 1) := by decide +kernel
theorem dX8_isFeasible_15 : decode cX8_isFeasible 15 = .ok (.invokevirtual 103, 3) := by decide +kernel
theorem dX8_isFeasible_18 : decode cX8_isFeasible 18 = .ok (.ifCond .eq 7, 3) := by decide +kernel
theorem dX8_isFeasible_21 : decode cX8_isFeasible 21 = .ok (.iconst 1, 1) := by decide +kernel
theorem dX8_isFeasible_22 : decode cX8_isFeasible 22 = .ok (.goto 4, 3) := by decide +kernel
theorem dX8_isFeasible_25 : decode cX8_isFeasible 25 = .ok (.iconst 0, 1) := by decide +kernel
theorem dX8_isFeasible_26 : decode cX8_isFeasible 26 = .ok (.ireturn, 1) := by decide +kernel
theorem dX8_isRowFeasible_0 : decode cX8_isRowFeasible 0 = .ok (.aload_n 0, 1) := by decide +kernel
theorem dX8_isRowFeasible_1 : decode cX8_isRowFeasible 1 = .ok (.iload_n 1, 1) := by decide +kernel
theorem dX8_isRowFeasible_2 : decode cX8_isRowFeasible 2 = .ok (.invokevirtual 107, 3) := by decide +kernel
theorem dX8_isRowFeasible_5 : decode cX8_isRowFeasible 5 = .ok (.aload_n 0, 1) := by decide +kernel
theorem dX8_isRowFeasible_6 : decode cX8_isRowFeasible 6 = .ok (.iload_n 1, 1) := by decide +kernel
theorem dX8_isRowFeasible_7 : decode cX8_isRowFeasible 7 = .ok (.invokevirtual 111, 3) := by decide +kernel
theorem dX8_isRowFeasible_10 : decode cX8_isRowFeasible 10 = .ok (.ireturn, 1) := by decide +kernel
theorem dX8_staysFeasible_0 : decode cX8_staysFeasible 0 = .ok (.aload_n 0, 1) := by decide +kernel
theorem dX8_staysFeasible_1 : decode cX8_staysFeasible 1 = .ok (.iload_n 1, 1) := by decide +kernel
theorem dX8_staysFeasible_2 : decode cX8_staysFeasible 2 = .ok (.invokevirtual 114, 3) := by decide +kernel
theorem dX8_staysFeasible_5 : decode cX8_staysFeasible 5 = .ok (.istore_n 2, 1) := by decide +kernel
theorem dX8_staysFeasible_6 : decode cX8_staysFeasible 6 = .ok (.iload_n 2, 1) := by decide +kernel
theorem dX8_staysFeasible_7 : decode cX8_staysFeasible 7 = .ok (.ifCond .lt 11, 3) := by decide +kernel
theorem dX8_staysFeasible_10 : decode cX8_staysFeasible 10 = .ok (.aload_n 0, 1) := by decide +kernel
theorem dX8_staysFeasible_11 : decode cX8_staysFeasible 11 = .ok (.iload_n 2, 1) := by decide +kernel
theorem dX8_staysFeasible_12 : decode cX8_staysFeasible 12 = .ok (.invokevirtual 117, 3) := by decide +kernel
theorem dX8_staysFeasible_15 : decode cX8_staysFeasible 15 = .ok (.ifCond .eq 7, 3) := by decide +kernel
theorem dX8_staysFeasible_18 : decode cX8_staysFeasible 18 = .ok (.iconst 1, 1) := by decide +kernel
theorem dX8_staysFeasible_19 : decode cX8_staysFeasible 19 = .ok (.goto 4, 3) := by decide +kernel
theorem dX8_staysFeasible_22 : decode cX8_staysFeasible 22 = .ok (.iconst 0, 1) := by decide +kernel
theorem dX8_staysFeasible_23 : decode cX8_staysFeasible 23 = .ok (.ireturn, 1) := by decide +kernel
theorem dX8_setWindow_0 : decode cX8_setWindow 0 = .ok (.aload_n 0, 1) := by decide +kernel
theorem dX8_setWindow_1 : decode cX8_setWindow 1 = .ok (.iload_n 1, 1) := by decide +kernel
theorem dX8_setWindow_2 : decode cX8_setWindow 2 = .ok (.invokevirtual 120, 3) := by decide +kernel
theorem dX8_setWindow_5 : decode cX8_setWindow 5 = .ok (.ifCond .eq 7, 3) := by decide +kernel
theorem dX8_setWindow_8 : decode cX8_setWindow 8 = .ok (.sipush (-1001), 3) := by decide +kernel
theorem dX8_setWindow_11 : decode cX8_setWindow 11 = .ok (.ireturn, 1) := by decide +kernel
theorem dX8_setWindow_12 : decode cX8_setWindow 12 = .ok (.iload_n 3, 1) := by decide +kernel
theorem dX8_setWindow_13 : decode cX8_setWindow 13 = .ok (.iconst 0, 1) := by decide +kernel
theorem dX8_setWindow_14 : decode cX8_setWindow 14 = .ok (.sipush 5000, 3) := by decide +kernel
theorem dX8_setWindow_17 : decode cX8_setWindow 17 = .ok (.invokestatic 65, 3) := by decide +kernel
theorem dX8_setWindow_20 : decode cX8_setWindow 20 = .ok (.ifCond .eq 15, 3) := by decide +kernel
theorem dX8_setWindow_23 : decode cX8_setWindow 23 = .ok (.iload 4, 2) := by decide +kernel
theorem dX8_setWindow_25 : decode cX8_setWindow 25 = .ok (.iload_n 3, 1) := by decide +kernel
theorem dX8_setWindow_26 : decode cX8_setWindow 26 = .ok (.sipush 5000, 3) := by decide +kernel
theorem dX8_setWindow_29 : decode cX8_setWindow 29 = .ok (.invokestatic 65, 3) := by decide +kernel
theorem dX8_setWindow_32 : decode cX8_setWindow 32 = .ok (.ifCond .ne 7, 3) := by decide +kernel
theorem dX8_setWindow_35 : decode cX8_setWindow 35 = .ok (.sipush (-1002), 3) := by decide +kernel
theorem dX8_setWindow_38 : decode cX8_setWindow 38 = .ok (.ireturn, 1) := by decide +kernel
theorem dX8_setWindow_39 : decode cX8_setWindow 39 = .ok (.iconst 2, 1) := by decide +kernel
theorem dX8_setWindow_40 : decode cX8_setWindow 40 = .ok (.iload_n 1, 1) := by decide +kernel
theorem dX8_setWindow_41 : decode cX8_setWindow 41 = .ok (.imul, 1) := by decide +kernel
theorem dX8_setWindow_42 : decode cX8_setWindow 42 = .ok (.iload_n 2, 1) := by decide +kernel
theorem dX8_setWindow_43 : decode cX8_setWindow 43 = .ok (.ifCond .eq 7, 3) := by decide +kernel
theorem dX8_setWindow_46 : decode cX8_setWindow 46 = .ok (.iconst 1, 1) := by decide +kernel
theorem dX8_setWindow_47 : decode cX8_setWindow 47 = .ok (.goto 4, 3) := by decide +kernel
theorem dX8_setWindow_50 : decode cX8_setWindow 50 = .ok (.iconst 0, 1) := by decide +kernel
theorem dX8_setWindow_51 : decode cX8_setWindow 51 = .ok (.iadd, 1) := by decide +kernel
theorem dX8_setWindow_52 : decode cX8_setWindow 52 = .ok (.istore 5, 2) := by decide +kernel
theorem dX8_setWindow_54 : decode cX8_setWindow 54 = .ok (.aload_n 0, 1) := by decide +kernel
theorem dX8_setWindow_55 : decode cX8_setWindow 55 = .ok (.getfield 31, 3) := by decide +kernel
theorem dX8_setWindow_58 : decode cX8_setWindow 58 = .ok (.iload 5, 2) := by decide +kernel
theorem dX8_setWindow_60 : decode cX8_setWindow 60 = .ok (.iaload, 1) := by decide +kernel
theorem dX8_setWindow_61 : decode cX8_setWindow 61 = .ok (.istore 6, 2) := by decide +kernel
theorem dX8_setWindow_63 : decode cX8_setWindow 63 = .ok (.aload_n 0, 1) := by decide +kernel
theorem dX8_setWindow_64 : decode cX8_setWindow 64 = .ok (.getfield 34, 3) := by decide +kernel
theorem dX8_setWindow_67 : decode cX8_setWindow 67 = .ok (.iload 5, 2) := by decide +kernel
theorem dX8_setWindow_69 : decode cX8_setWindow 69 = .ok (.iaload, 1) := by decide +kernel
theorem dX8_setWindow_70 : decode cX8_setWindow 70 = .ok (.istore 7, 2) := by decide +kernel
theorem dX8_setWindow_72 : decode cX8_setWindow 72 = .ok (.aload_n 0, 1) := by decide +kernel
theorem dX8_setWindow_73 : decode cX8_setWindow 73 = .ok (.getfield 31, 3) := by decide +kernel
theorem dX8_setWindow_76 : decode cX8_setWindow 76 = .ok (.iload 5, 2) := by decide +kernel
theorem dX8_setWindow_78 : decode cX8_setWindow 78 = .ok (.iload_n 3, 1) := by decide +kernel
theorem dX8_setWindow_79 : decode cX8_setWindow 79 = .ok (.iastore, 1) := by decide +kernel
theorem dX8_setWindow_80 : decode cX8_setWindow 80 = .ok (.aload_n 0, 1) := by decide +kernel
theorem dX8_setWindow_81 : decode cX8_setWindow 81 = .ok (.getfield 34, 3) := by decide +kernel
theorem dX8_setWindow_84 : decode cX8_setWindow 84 = .ok (.iload 5, 2) := by decide +kernel
theorem dX8_setWindow_86 : decode cX8_setWindow 86 = .ok (.iload 4, 2) := by decide +kernel
theorem dX8_setWindow_88 : decode cX8_setWindow 88 = .ok (.iastore, 1) := by decide +kernel
theorem dX8_setWindow_89 : decode cX8_setWindow 89 = .ok (.aload_n 0, 1) := by decide +kernel
theorem dX8_setWindow_90 : decode cX8_setWindow 90 = .ok (.iload_n 1, 1) := by decide +kernel
theorem dX8_setWindow_91 : decode cX8_setWindow 91 = .ok (.invokevirtual 123, 3) := by decide +kernel
theorem dX8_setWindow_94 : decode cX8_setWindow 94 = .ok (.ifCond .ne 25, 3) := by decide +kernel
theorem dX8_setWindow_97 : decode cX8_setWindow 97 = .ok (.aload_n 0, 1) := by decide +kernel
theorem dX8_setWindow_98 : decode cX8_setWindow 98 = .ok (.getfield 31, 3) := by decide +kernel
theorem dX8_setWindow_101 : decode cX8_setWindow 101 = .ok (.iload 5, 2) := by decide +kernel
theorem dX8_setWindow_103 : decode cX8_setWindow 103 = .ok (.iload 6, 2) := by decide +kernel
theorem dX8_setWindow_105 : decode cX8_setWindow 105 = .ok (.iastore, 1) := by decide +kernel
theorem dX8_setWindow_106 : decode cX8_setWindow 106 = .ok (.aload_n 0, 1) := by decide +kernel
theorem dX8_setWindow_107 : decode cX8_setWindow 107 = .ok (.getfield 34, 3) := by decide +kernel
theorem dX8_setWindow_110 : decode cX8_setWindow 110 = .ok (.iload 5, 2) := by decide +kernel
theorem dX8_setWindow_112 : decode cX8_setWindow 112 = .ok (.iload 7, 2) := by decide +kernel
theorem dX8_setWindow_114 : decode cX8_setWindow 114 = .ok (.iastore, 1) := by decide +kernel
theorem dX8_setWindow_115 : decode cX8_setWindow 115 = .ok (.sipush (-1005), 3) := by decide +kernel
theorem dX8_setWindow_118 : decode cX8_setWindow 118 = .ok (.ireturn, 1) := by decide +kernel
theorem dX8_setWindow_119 : decode cX8_setWindow 119 = .ok (.iload_n 3, 1) := by decide +kernel
theorem dX8_setWindow_120 : decode cX8_setWindow 120 = .ok (.iload 6, 2) := by decide +kernel
theorem dX8_setWindow_122 : decode cX8_setWindow 122 = .ok (.if_icmp .ne 10, 3) := by decide +kernel
theorem dX8_setWindow_125 : decode cX8_setWindow 125 = .ok (.iload 4, 2) := by decide +kernel
theorem dX8_setWindow_127 : decode cX8_setWindow 127 = .ok (.iload 7, 2) := by decide +kernel
theorem dX8_setWindow_129 : decode cX8_setWindow 129 = .ok (.if_icmp .eq 7, 3) := by decide +kernel
theorem dX8_setWindow_132 : decode cX8_setWindow 132 = .ok (.iconst 1, 1) := by decide +kernel
theorem dX8_setWindow_133 : decode cX8_setWindow 133 = .ok (.goto 4, 3) := by decide +kernel
theorem dX8_setWindow_136 : decode cX8_setWindow 136 = .ok (.iconst 0, 1) := by decide +kernel
theorem dX8_setWindow_137 : decode cX8_setWindow 137 = .ok (.istore 8, 2) := by decide +kernel
theorem dX8_setWindow_139 : decode cX8_setWindow 139 = .ok (.aload_n 0, 1) := by decide +kernel
theorem dX8_setWindow_140 : decode cX8_setWindow 140 = .ok (.iload 8, 2) := by decide +kernel
theorem dX8_setWindow_142 : decode cX8_setWindow 142 = .ok (.ifCond .eq 7, 3) := by decide +kernel
theorem dX8_setWindow_145 : decode cX8_setWindow 145 = .ok (.iconst 0, 1) := by decide +kernel
theorem dX8_setWindow_146 : decode cX8_setWindow 146 = .ok (.goto 7, 3) := by decide +kernel
theorem dX8_setWindow_149 : decode cX8_setWindow 149 = .ok (.aload_n 0, 1) := by decide +kernel
theorem dX8_setWindow_150 : decode cX8_setWindow 150 = .ok (.getfield 79, 3) := by decide +kernel
theorem dX8_setWindow_153 : decode cX8_setWindow 153 = .ok (.putfield 79, 3) := by decide +kernel
theorem dX8_setWindow_156 : decode cX8_setWindow 156 = .ok (.iload 8, 2) := by decide +kernel
theorem dX8_setWindow_158 : decode cX8_setWindow 158 = .ok (.ifCond .eq 7, 3) := by decide +kernel
theorem dX8_setWindow_161 : decode cX8_setWindow 161 = .ok (.iconst 1, 1) := by decide +kernel
theorem dX8_setWindow_162 : decode cX8_setWindow 162 = .ok (.goto 4, 3) := by decide +kernel
theorem dX8_setWindow_165 : decode cX8_setWindow 165 = .ok (.iconst 0, 1) := by decide +kernel
theorem dX8_setWindow_166 : decode cX8_setWindow 166 = .ok (.ireturn, 1) := by decide +kernel
theorem dX8_setLimit_0 : decode cX8_setLimit 0 = .ok (.aload_n 0, 1) := by decide +kernel
theorem dX8_setLimit_1 : decode cX8_setLimit 1 = .ok (.iload_n 1, 1) := by decide +kernel
theorem dX8_setLimit_2 : decode cX8_setLimit 2 = .ok (.invokevirtual 120, 3) := by decide +kernel
theorem dX8_setLimit_5 : decode cX8_setLimit 5 = .ok (.ifCond .eq 7, 3) := by decide +kernel
theorem dX8_setLimit_8 : decode cX8_setLimit 8 = .ok (.sipush (-1001), 3) := by decide +kernel
theorem dX8_setLimit_11 : decode cX8_setLimit 11 = .ok (.ireturn, 1) := by decide +kernel
theorem dX8_setLimit_12 : decode cX8_setLimit 12 = .ok (.iload_n 2, 1) := by decide +kernel
theorem dX8_setLimit_13 : decode cX8_setLimit 13 = .ok (.iconst 0, 1) := by decide +kernel
theorem dX8_setLimit_14 : decode cX8_setLimit 14 = .ok (.sipush 1000, 3) := by decide +kernel
theorem dX8_setLimit_17 : decode cX8_setLimit 17 = .ok (.invokestatic 65, 3) := by decide +kernel
theorem dX8_setLimit_20 : decode cX8_setLimit 20 = .ok (.ifCond .ne 7, 3) := by decide +kernel
theorem dX8_setLimit_23 : decode cX8_setLimit 23 = .ok (.sipush (-1002), 3) := by decide +kernel
theorem dX8_setLimit_26 : decode cX8_setLimit 26 = .ok (.ireturn, 1) := by decide +kernel
theorem dX8_setLimit_27 : decode cX8_setLimit 27 = .ok (.aload_n 0, 1) := by decide +kernel
theorem dX8_setLimit_28 : decode cX8_setLimit 28 = .ok (.getfield 40, 3) := by decide +kernel
theorem dX8_setLimit_31 : decode cX8_setLimit 31 = .ok (.iload_n 1, 1) := by decide +kernel
theorem dX8_setLimit_32 : decode cX8_setLimit 32 = .ok (.iaload, 1) := by decide +kernel
theorem dX8_setLimit_33 : decode cX8_setLimit 33 = .ok (.istore_n 3, 1) := by decide +kernel
theorem dX8_setLimit_34 : decode cX8_setLimit 34 = .ok (.aload_n 0, 1) := by decide +kernel
theorem dX8_setLimit_35 : decode cX8_setLimit 35 = .ok (.getfield 40, 3) := by decide +kernel
theorem dX8_setLimit_38 : decode cX8_setLimit 38 = .ok (.iload_n 1, 1) := by decide +kernel
theorem dX8_setLimit_39 : decode cX8_setLimit 39 = .ok (.iload_n 2, 1) := by decide +kernel
theorem dX8_setLimit_40 : decode cX8_setLimit 40 = .ok (.iastore, 1) := by decide +kernel
theorem dX8_setLimit_41 : decode cX8_setLimit 41 = .ok (.aload_n 0, 1) := by decide +kernel
theorem dX8_setLimit_42 : decode cX8_setLimit 42 = .ok (.iload_n 1, 1) := by decide +kernel
theorem dX8_setLimit_43 : decode cX8_setLimit 43 = .ok (.invokevirtual 123, 3) := by decide +kernel
theorem dX8_setLimit_46 : decode cX8_setLimit 46 = .ok (.ifCond .ne 14, 3) := by decide +kernel
theorem dX8_setLimit_49 : decode cX8_setLimit 49 = .ok (.aload_n 0, 1) := by decide +kernel
theorem dX8_setLimit_50 : decode cX8_setLimit 50 = .ok (.getfield 40, 3) := by decide +kernel
theorem dX8_setLimit_53 : decode cX8_setLimit 53 = .ok (.iload_n 1, 1) := by decide +kernel
theorem dX8_setLimit_54 : decode cX8_setLimit 54 = .ok (.iload_n 3, 1) := by decide +kernel
theorem dX8_setLimit_55 : decode cX8_setLimit 55 = .ok (.iastore, 1) := by decide +kernel
theorem dX8_setLimit_56 : decode cX8_setLimit 56 = .ok (.sipush (-1005), 3) := by decide +kernel
theorem dX8_setLimit_59 : decode cX8_setLimit 59 = .ok (.ireturn, 1) := by decide +kernel
theorem dX8_setLimit_60 : decode cX8_setLimit 60 = .ok (.aload_n 0, 1) := by decide +kernel
theorem dX8_setLimit_61 : decode cX8_setLimit 61 = .ok (.iload_n 3, 1) := by decide +kernel
theorem dX8_setLimit_62 : decode cX8_setLimit 62 = .ok (.iload_n 2, 1) := by decide +kernel
theorem dX8_setLimit_63 : decode cX8_setLimit 63 = .ok (.if_icmp .eq 7, 3) := by decide +kernel
theorem dX8_setLimit_66 : decode cX8_setLimit 66 = .ok (.iconst 0, 1) := by decide +kernel
theorem dX8_setLimit_67 : decode cX8_setLimit 67 = .ok (.goto 7, 3) := by decide +kernel
theorem dX8_setLimit_70 : decode cX8_setLimit 70 = .ok (.aload_n 0, 1) := by decide +kernel
theorem dX8_setLimit_71 : decode cX8_setLimit 71 = .ok (.getfield 79, 3) := by decide +kernel
theorem dX8_setLimit_74 : decode cX8_setLimit 74 = .ok (.putfield 79, 3) := by decide +kernel
theorem dX8_setLimit_77 : decode cX8_setLimit 77 = .ok (.iload_n 3, 1) := by decide +kernel
theorem dX8_setLimit_78 : decode cX8_setLimit 78 = .ok (.ireturn, 1) := by decide +kernel
theorem dX8_setLoad_0 : decode cX8_setLoad 0 = .ok (.aload_n 0, 1) := by decide +kernel
theorem dX8_setLoad_1 : decode cX8_setLoad 1 = .ok (.iload_n 1, 1) := by decide +kernel
theorem dX8_setLoad_2 : decode cX8_setLoad 2 = .ok (.invokevirtual 120, 3) := by decide +kernel
theorem dX8_setLoad_5 : decode cX8_setLoad 5 = .ok (.ifCond .eq 7, 3) := by decide +kernel
theorem dX8_setLoad_8 : decode cX8_setLoad 8 = .ok (.sipush (-1001), 3) := by decide +kernel
theorem dX8_setLoad_11 : decode cX8_setLoad 11 = .ok (.ireturn, 1) := by decide +kernel
theorem dX8_setLoad_12 : decode cX8_setLoad 12 = .ok (.iload_n 2, 1) := by decide +kernel
theorem dX8_setLoad_13 : decode cX8_setLoad 13 = .ok (.iconst 1, 1) := by decide +kernel
theorem dX8_setLoad_14 : decode cX8_setLoad 14 = .ok (.bipush 8, 2) := by decide +kernel
theorem dX8_setLoad_16 : decode cX8_setLoad 16 = .ok (.invokestatic 65, 3) := by decide +kernel
theorem dX8_setLoad_19 : decode cX8_setLoad 19 = .ok (.ifCond .ne 7, 3) := by decide +kernel
theorem dX8_setLoad_22 : decode cX8_setLoad 22 = .ok (.sipush (-1002), 3) := by decide +kernel
theorem dX8_setLoad_25 : decode cX8_setLoad 25 = .ok (.ireturn, 1) := by decide +kernel
theorem dX8_setLoad_26 : decode cX8_setLoad 26 = .ok (.aload_n 0, 1) := by decide +kernel
theorem dX8_setLoad_27 : decode cX8_setLoad 27 = .ok (.getfield 37, 3) := by decide +kernel
theorem dX8_setLoad_30 : decode cX8_setLoad 30 = .ok (.iload_n 1, 1) := by decide +kernel
theorem dX8_setLoad_31 : decode cX8_setLoad 31 = .ok (.iaload, 1) := by decide +kernel
theorem dX8_setLoad_32 : decode cX8_setLoad 32 = .ok (.istore_n 3, 1) := by decide +kernel
theorem dX8_setLoad_33 : decode cX8_setLoad 33 = .ok (.aload_n 0, 1) := by decide +kernel
theorem dX8_setLoad_34 : decode cX8_setLoad 34 = .ok (.getfield 37, 3) := by decide +kernel
theorem dX8_setLoad_37 : decode cX8_setLoad 37 = .ok (.iload_n 1, 1) := by decide +kernel
theorem dX8_setLoad_38 : decode cX8_setLoad 38 = .ok (.iload_n 2, 1) := by decide +kernel
theorem dX8_setLoad_39 : decode cX8_setLoad 39 = .ok (.iastore, 1) := by decide +kernel
theorem dX8_setLoad_40 : decode cX8_setLoad 40 = .ok (.aload_n 0, 1) := by decide +kernel
theorem dX8_setLoad_41 : decode cX8_setLoad 41 = .ok (.iload_n 1, 1) := by decide +kernel
theorem dX8_setLoad_42 : decode cX8_setLoad 42 = .ok (.invokevirtual 123, 3) := by decide +kernel
theorem dX8_setLoad_45 : decode cX8_setLoad 45 = .ok (.ifCond .ne 14, 3) := by decide +kernel
theorem dX8_setLoad_48 : decode cX8_setLoad 48 = .ok (.aload_n 0, 1) := by decide +kernel
theorem dX8_setLoad_49 : decode cX8_setLoad 49 = .ok (.getfield 37, 3) := by decide +kernel
theorem dX8_setLoad_52 : decode cX8_setLoad 52 = .ok (.iload_n 1, 1) := by decide +kernel
theorem dX8_setLoad_53 : decode cX8_setLoad 53 = .ok (.iload_n 3, 1) := by decide +kernel
theorem dX8_setLoad_54 : decode cX8_setLoad 54 = .ok (.iastore, 1) := by decide +kernel
theorem dX8_setLoad_55 : decode cX8_setLoad 55 = .ok (.sipush (-1005), 3) := by decide +kernel
theorem dX8_setLoad_58 : decode cX8_setLoad 58 = .ok (.ireturn, 1) := by decide +kernel
theorem dX8_setLoad_59 : decode cX8_setLoad 59 = .ok (.aload_n 0, 1) := by decide +kernel
theorem dX8_setLoad_60 : decode cX8_setLoad 60 = .ok (.iload_n 3, 1) := by decide +kernel
theorem dX8_setLoad_61 : decode cX8_setLoad 61 = .ok (.iload_n 2, 1) := by decide +kernel
theorem dX8_setLoad_62 : decode cX8_setLoad 62 = .ok (.if_icmp .eq 7, 3) := by decide +kernel
theorem dX8_setLoad_65 : decode cX8_setLoad 65 = .ok (.iconst 0, 1) := by decide +kernel
theorem dX8_setLoad_66 : decode cX8_setLoad 66 = .ok (.goto 7, 3) := by decide +kernel
theorem dX8_setLoad_69 : decode cX8_setLoad 69 = .ok (.aload_n 0, 1) := by decide +kernel
theorem dX8_setLoad_70 : decode cX8_setLoad 70 = .ok (.getfield 79, 3) := by decide +kernel
theorem dX8_setLoad_73 : decode cX8_setLoad 73 = .ok (.putfield 79, 3) := by decide +kernel
theorem dX8_setLoad_76 : decode cX8_setLoad 76 = .ok (.iload_n 3, 1) := by decide +kernel
theorem dX8_setLoad_77 : decode cX8_setLoad 77 = .ok (.ireturn, 1) := by decide +kernel
theorem dX8_setService_0 : decode cX8_setService 0 = .ok (.iload_n 1, 1) := by decide +kernel
theorem dX8_setService_1 : decode cX8_setService 1 = .ok (.iconst 0, 1) := by decide +kernel
theorem dX8_setService_2 : decode cX8_setService 2 = .ok (.bipush 10, 2) := by decide +kernel
theorem dX8_setService_4 : decode cX8_setService 4 = .ok (.invokestatic 65, 3) := by decide +kernel
theorem dX8_setService_7 : decode cX8_setService 7 = .ok (.ifCond .ne 7, 3) := by decide +kernel
theorem dX8_setService_10 : decode cX8_setService 10 = .ok (.sipush (-1002), 3) := by decide +kernel
theorem dX8_setService_13 : decode cX8_setService 13 = .ok (.ireturn, 1) := by decide +kernel
theorem dX8_setService_14 : decode cX8_setService 14 = .ok (.aload_n 0, 1) := by decide +kernel
theorem dX8_setService_15 : decode cX8_setService 15 = .ok (.getfield 61, 3) := by decide +kernel
theorem dX8_setService_18 : decode cX8_setService 18 = .ok (.istore_n 2, 1) := by decide +kernel
theorem dX8_setService_19 : decode cX8_setService 19 = .ok (.aload_n 0, 1) := by decide +kernel
theorem dX8_setService_20 : decode cX8_setService 20 = .ok (.iload_n 1, 1) := by decide +kernel
theorem dX8_setService_21 : decode cX8_setService 21 = .ok (.putfield 61, 3) := by decide +kernel
theorem dX8_setService_24 : decode cX8_setService 24 = .ok (.iconst 0, 1) := by decide +kernel
theorem dX8_setService_25 : decode cX8_setService 25 = .ok (.istore_n 3, 1) := by decide +kernel
theorem dX8_setService_26 : decode cX8_setService 26 = .ok (.iload_n 3, 1) := by decide +kernel
theorem dX8_setService_27 : decode cX8_setService 27 = .ok (.aload_n 0, 1) := by decide +kernel
theorem dX8_setService_28 : decode cX8_setService 28 = .ok (.getfield 69, 3) := by decide +kernel
theorem dX8_setService_31 : decode cX8_setService 31 = .ok (.if_icmp .ge 26, 3) := by decide +kernel
theorem dX8_setService_34 : decode cX8_setService 34 = .ok (.aload_n 0, 1) := by decide +kernel
theorem dX8_setService_35 : decode cX8_setService 35 = .ok (.iload_n 3, 1) := by decide +kernel
theorem dX8_setService_36 : decode cX8_setService 36 = .ok (.invokevirtual 117, 3) := by decide +kernel
theorem dX8_setService_39 : decode cX8_setService 39 = .ok (.ifCond .ne 12, 3) := by decide +kernel
theorem dX8_setService_42 : decode cX8_setService 42 = .ok (.aload_n 0, 1) := by decide +kernel
theorem dX8_setService_43 : decode cX8_setService 43 = .ok (.iload_n 2, 1) := by decide +kernel
theorem dX8_setService_44 : decode cX8_setService 44 = .ok (.putfield 61, 3) := by decide +kernel
theorem dX8_setService_47 : decode cX8_setService 47 = .ok (.sipush (-1005), 3) := by decide +kernel
theorem dX8_setService_50 : decode cX8_setService 50 = .ok (.ireturn, 1) := by decide +kernel
theorem dX8_setService_51 : decode cX8_setService 51 = .ok (.iinc 3 1, 3) := by decide +kernel
theorem dX8_setService_54 : decode cX8_setService 54 = .ok (.goto (-28), 3) := by decide +kernel
theorem dX8_setService_57 : decode cX8_setService 57 = .ok (.aload_n 0, 1) := by decide +kernel
theorem dX8_setService_58 : decode cX8_setService 58 = .ok (.iload_n 2, 1) := by decide +kernel
theorem dX8_setService_59 : decode cX8_setService 59 = .ok (.iload_n 1, 1) := by decide +kernel
theorem dX8_setService_60 : decode cX8_setService 60 = .ok (.if_icmp .eq 7, 3) := by decide +kernel
theorem dX8_setService_63 : decode cX8_setService 63 = .ok (.iconst 0, 1) := by decide +kernel
theorem dX8_setService_64 : decode cX8_setService 64 = .ok (.goto 7, 3) := by decide +kernel
theorem dX8_setService_67 : decode cX8_setService 67 = .ok (.aload_n 0, 1) := by decide +kernel
theorem dX8_setService_68 : decode cX8_setService 68 = .ok (.getfield 79, 3) := by decide +kernel
theorem dX8_setService_71 : decode cX8_setService 71 = .ok (.putfield 79, 3) := by decide +kernel
theorem dX8_setService_74 : decode cX8_setService 74 = .ok (.iload_n 2, 1) := by decide +kernel
theorem dX8_setService_75 : decode cX8_setService 75 = .ok (.ireturn, 1) := by decide +kernel
theorem dX8_total_0 : decode cX8_total 0 = .ok (.iconst 0, 1) := by decide +kernel
theorem dX8_total_1 : decode cX8_total 1 = .ok (.istore_n 1, 1) := by decide +kernel
theorem dX8_total_2 : decode cX8_total 2 = .ok (.iconst 0, 1) := by decide +kernel
theorem dX8_total_3 : decode cX8_total 3 = .ok (.istore_n 2, 1) := by decide +kernel
theorem dX8_total_4 : decode cX8_total 4 = .ok (.iload_n 2, 1) := by decide +kernel
theorem dX8_total_5 : decode cX8_total 5 = .ok (.aload_n 0, 1) := by decide +kernel
theorem dX8_total_6 : decode cX8_total 6 = .ok (.getfield 69, 3) := by decide +kernel
theorem dX8_total_9 : decode cX8_total 9 = .ok (.if_icmp .ge 22, 3) := by decide +kernel
theorem dX8_total_12 : decode cX8_total 12 = .ok (.aload_n 0, 1) := by decide +kernel
theorem dX8_total_13 : decode cX8_total 13 = .ok (.iload_n 2, 1) := by decide +kernel
theorem dX8_total_14 : decode cX8_total 14 = .ok (.invokevirtual 107, 3) := by decide +kernel
theorem dX8_total_17 : decode cX8_total 17 = .ok (.iload_n 1, 1) := by decide +kernel
theorem dX8_total_18 : decode cX8_total 18 = .ok (.aload_n 0, 1) := by decide +kernel
theorem dX8_total_19 : decode cX8_total 19 = .ok (.iload_n 2, 1) := by decide +kernel
theorem dX8_total_20 : decode cX8_total 20 = .ok (.invokevirtual 126, 3) := by decide +kernel
theorem dX8_total_23 : decode cX8_total 23 = .ok (.iadd, 1) := by decide +kernel
theorem dX8_total_24 : decode cX8_total 24 = .ok (.istore_n 1, 1) := by decide +kernel
theorem dX8_total_25 : decode cX8_total 25 = .ok (.iinc 2 1, 3) := by decide +kernel
theorem dX8_total_28 : decode cX8_total 28 = .ok (.goto (-24), 3) := by decide +kernel
theorem dX8_total_31 : decode cX8_total 31 = .ok (.iload_n 1, 1) := by decide +kernel
theorem dX8_total_32 : decode cX8_total 32 = .ok (.ireturn, 1) := by decide +kernel
theorem dX8_count_0 : decode cX8_count 0 = .ok (.iconst 0, 1) := by decide +kernel
theorem dX8_count_1 : decode cX8_count 1 = .ok (.istore_n 2, 1) := by decide +kernel
theorem dX8_count_2 : decode cX8_count 2 = .ok (.iconst 0, 1) := by decide +kernel
theorem dX8_count_3 : decode cX8_count 3 = .ok (.istore_n 3, 1) := by decide +kernel
theorem dX8_count_4 : decode cX8_count 4 = .ok (.iload_n 3, 1) := by decide +kernel
theorem dX8_count_5 : decode cX8_count 5 = .ok (.aload_n 0, 1) := by decide +kernel
theorem dX8_count_6 : decode cX8_count 6 = .ok (.getfield 72, 3) := by decide +kernel
theorem dX8_count_9 : decode cX8_count 9 = .ok (.if_icmp .ge 25, 3) := by decide +kernel
theorem dX8_count_12 : decode cX8_count 12 = .ok (.iload_n 2, 1) := by decide +kernel
theorem dX8_count_13 : decode cX8_count 13 = .ok (.aload_n 0, 1) := by decide +kernel
theorem dX8_count_14 : decode cX8_count 14 = .ok (.iload_n 3, 1) := by decide +kernel
theorem dX8_count_15 : decode cX8_count 15 = .ok (.invokevirtual 114, 3) := by decide +kernel
theorem dX8_count_18 : decode cX8_count 18 = .ok (.ifCond .ge 7, 3) := by decide +kernel
theorem dX8_count_21 : decode cX8_count 21 = .ok (.iconst 1, 1) := by decide +kernel
theorem dX8_count_22 : decode cX8_count 22 = .ok (.goto 4, 3) := by decide +kernel
theorem dX8_count_25 : decode cX8_count 25 = .ok (.iconst 0, 1) := by decide +kernel
theorem dX8_count_26 : decode cX8_count 26 = .ok (.iadd, 1) := by decide +kernel
theorem dX8_count_27 : decode cX8_count 27 = .ok (.istore_n 2, 1) := by decide +kernel
theorem dX8_count_28 : decode cX8_count 28 = .ok (.iinc 3 1, 3) := by decide +kernel
theorem dX8_count_31 : decode cX8_count 31 = .ok (.goto (-27), 3) := by decide +kernel
theorem dX8_count_34 : decode cX8_count 34 = .ok (.iload_n 1, 1) := by decide +kernel
theorem dX8_count_35 : decode cX8_count 35 = .ok (.tableswitch 64 0 5 #[37, 42, 47, 49, 54, 59], 37) := by decide +kernel
theorem dX8_count_72 : decode cX8_count 72 = .ok (.aload_n 0, 1) := by decide +kernel
theorem dX8_count_73 : decode cX8_count 73 = .ok (.getfield 69, 3) := by decide +kernel
theorem dX8_count_76 : decode cX8_count 76 = .ok (.ireturn, 1) := by decide +kernel
theorem dX8_count_77 : decode cX8_count 77 = .ok (.aload_n 0, 1) := by decide +kernel
theorem dX8_count_78 : decode cX8_count 78 = .ok (.getfield 72, 3) := by decide +kernel
theorem dX8_count_81 : decode cX8_count 81 = .ok (.ireturn, 1) := by decide +kernel
theorem dX8_count_82 : decode cX8_count 82 = .ok (.iload_n 2, 1) := by decide +kernel
theorem dX8_count_83 : decode cX8_count 83 = .ok (.ireturn, 1) := by decide +kernel
theorem dX8_count_84 : decode cX8_count 84 = .ok (.aload_n 0, 1) := by decide +kernel
theorem dX8_count_85 : decode cX8_count 85 = .ok (.invokevirtual 129, 3) := by decide +kernel
theorem dX8_count_88 : decode cX8_count 88 = .ok (.ireturn, 1) := by decide +kernel
theorem dX8_count_89 : decode cX8_count 89 = .ok (.aload_n 0, 1) := by decide +kernel
theorem dX8_count_90 : decode cX8_count 90 = .ok (.getfield 61, 3) := by decide +kernel
theorem dX8_count_93 : decode cX8_count 93 = .ok (.ireturn, 1) := by decide +kernel
theorem dX8_count_94 : decode cX8_count 94 = .ok (.aload_n 0, 1) := by decide +kernel
theorem dX8_count_95 : decode cX8_count 95 = .ok (.getfield 79, 3) := by decide +kernel
theorem dX8_count_98 : decode cX8_count 98 = .ok (.ireturn, 1) := by decide +kernel
theorem dX8_count_99 : decode cX8_count 99 = .ok (.sipush (-1002), 3) := by decide +kernel
theorem dX8_count_102 : decode cX8_count 102 = .ok (.ireturn, 1) := by decide +kernel
theorem dX8_request_0 : decode cX8_request 0 = .ok (.aload_n 0, 1) := by decide +kernel
theorem dX8_request_1 : decode cX8_request 1 = .ok (.iload_n 1, 1) := by decide +kernel
theorem dX8_request_2 : decode cX8_request 2 = .ok (.invokevirtual 120, 3) := by decide +kernel
theorem dX8_request_5 : decode cX8_request 5 = .ok (.ifCond .eq 7, 3) := by decide +kernel
theorem dX8_request_8 : decode cX8_request 8 = .ok (.sipush (-1001), 3) := by decide +kernel
theorem dX8_request_11 : decode cX8_request 11 = .ok (.ireturn, 1) := by decide +kernel
theorem dX8_request_12 : decode cX8_request 12 = .ok (.iload_n 2, 1) := by decide +kernel
theorem dX8_request_13 : decode cX8_request 13 = .ok (.tableswitch 134 0 7 #[47, 67, 74, 81, 90, 99, 110, 121], 47) := by decide +kernel
theorem dX8_request_60 : decode cX8_request 60 = .ok (.aload_n 0, 1) := by decide +kernel
theorem dX8_request_61 : decode cX8_request 61 = .ok (.iload_n 1, 1) := by decide +kernel
theorem dX8_request_62 : decode cX8_request 62 = .ok (.invokevirtual 114, 3) := by decide +kernel
theorem dX8_request_65 : decode cX8_request 65 = .ok (.ifCond .ge 9, 3) := by decide +kernel
theorem dX8_request_68 : decode cX8_request 68 = .ok (.sipush (-1007), 3) := by decide +kernel
theorem dX8_request_71 : decode cX8_request 71 = .ok (.goto 8, 3) := by decide +kernel
theorem dX8_request_74 : decode cX8_request 74 = .ok (.aload_n 0, 1) := by decide +kernel
theorem dX8_request_75 : decode cX8_request 75 = .ok (.iload_n 1, 1) := by decide +kernel
theorem dX8_request_76 : decode cX8_request 76 = .ok (.invokevirtual 114, 3) := by decide +kernel
theorem dX8_request_79 : decode cX8_request 79 = .ok (.ireturn, 1) := by decide +kernel
theorem dX8_request_80 : decode cX8_request 80 = .ok (.aload_n 0, 1) := by decide +kernel
theorem dX8_request_81 : decode cX8_request 81 = .ok (.getfield 37, 3) := by decide +kernel
theorem dX8_request_84 : decode cX8_request 84 = .ok (.iload_n 1, 1) := by decide +kernel
theorem dX8_request_85 : decode cX8_request 85 = .ok (.iaload, 1) := by decide +kernel
theorem dX8_request_86 : decode cX8_request 86 = .ok (.ireturn, 1) := by decide +kernel
theorem dX8_request_87 : decode cX8_request 87 = .ok (.aload_n 0, 1) := by decide +kernel
theorem dX8_request_88 : decode cX8_request 88 = .ok (.getfield 40, 3) := by decide +kernel
theorem dX8_request_91 : decode cX8_request 91 = .ok (.iload_n 1, 1) := by decide +kernel
theorem dX8_request_92 : decode cX8_request 92 = .ok (.iaload, 1) := by decide +kernel
theorem dX8_request_93 : decode cX8_request 93 = .ok (.ireturn, 1) := by decide +kernel
theorem dX8_request_94 : decode cX8_request 94 = .ok (.aload_n 0, 1) := by decide +kernel
theorem dX8_request_95 : decode cX8_request 95 = .ok (.getfield 31, 3) := by decide +kernel
theorem dX8_request_98 : decode cX8_request 98 = .ok (.iconst 2, 1) := by decide +kernel
theorem dX8_request_99 : decode cX8_request 99 = .ok (.iload_n 1, 1) := by decide +kernel
theorem dX8_request_100 : decode cX8_request 100 = .ok (.imul, 1) := by decide +kernel
theorem dX8_request_101 : decode cX8_request 101 = .ok (.iaload, 1) := by decide +kernel
theorem dX8_request_102 : decode cX8_request 102 = .ok (.ireturn, 1) := by decide +kernel
theorem dX8_request_103 : decode cX8_request 103 = .ok (.aload_n 0, 1) := by decide +kernel
theorem dX8_request_104 : decode cX8_request 104 = .ok (.getfield 34, 3) := by decide +kernel
theorem dX8_request_107 : decode cX8_request 107 = .ok (.iconst 2, 1) := by decide +kernel
theorem dX8_request_108 : decode cX8_request 108 = .ok (.iload_n 1, 1) := by decide +kernel
theorem dX8_request_109 : decode cX8_request 109 = .ok (.imul, 1) := by decide +kernel
theorem dX8_request_110 : decode cX8_request 110 = .ok (.iaload, 1) := by decide +kernel
theorem dX8_request_111 : decode cX8_request 111 = .ok (.ireturn, 1) := by decide +kernel
theorem dX8_request_112 : decode cX8_request 112 = .ok (.aload_n 0, 1) := by decide +kernel
theorem dX8_request_113 : decode cX8_request 113 = .ok (.getfield 31, 3) := by decide +kernel
theorem dX8_request_116 : decode cX8_request 116 = .ok (.iconst 2, 1) := by decide +kernel
theorem dX8_request_117 : decode cX8_request 117 = .ok (.iload_n 1, 1) := by decide +kernel
theorem dX8_request_118 : decode cX8_request 118 = .ok (.imul, 1) := by decide +kernel
theorem dX8_request_119 : decode cX8_request 119 = .ok (.iconst 1, 1) := by decide +kernel
theorem dX8_request_120 : decode cX8_request 120 = .ok (.iadd, 1) := by decide +kernel
theorem dX8_request_121 : decode cX8_request 121 = .ok (.iaload, 1) := by decide +kernel
theorem dX8_request_122 : decode cX8_request 122 = .ok (.ireturn, 1) := by decide +kernel
theorem dX8_request_123 : decode cX8_request 123 = .ok (.aload_n 0, 1) := by decide +kernel
theorem dX8_request_124 : decode cX8_request 124 = .ok (.getfield 34, 3) := by decide +kernel
theorem dX8_request_127 : decode cX8_request 127 = .ok (.iconst 2, 1) := by decide +kernel
theorem dX8_request_128 : decode cX8_request 128 = .ok (.iload_n 1, 1) := by decide +kernel
theorem dX8_request_129 : decode cX8_request 129 = .ok (.imul, 1) := by decide +kernel
theorem dX8_request_130 : decode cX8_request 130 = .ok (.iconst 1, 1) := by decide +kernel
theorem dX8_request_131 : decode cX8_request 131 = .ok (.iadd, 1) := by decide +kernel
theorem dX8_request_132 : decode cX8_request 132 = .ok (.iaload, 1) := by decide +kernel
theorem dX8_request_133 : decode cX8_request 133 = .ok (.ireturn, 1) := by decide +kernel
theorem dX8_request_134 : decode cX8_request 134 = .ok (.aload_n 0, 1) := by decide +kernel
theorem dX8_request_135 : decode cX8_request 135 = .ok (.iconst 2, 1) := by decide +kernel
theorem dX8_request_136 : decode cX8_request 136 = .ok (.iload_n 1, 1) := by decide +kernel
theorem dX8_request_137 : decode cX8_request 137 = .ok (.imul, 1) := by decide +kernel
theorem dX8_request_138 : decode cX8_request 138 = .ok (.iconst 2, 1) := by decide +kernel
theorem dX8_request_139 : decode cX8_request 139 = .ok (.iload_n 1, 1) := by decide +kernel
theorem dX8_request_140 : decode cX8_request 140 = .ok (.imul, 1) := by decide +kernel
theorem dX8_request_141 : decode cX8_request 141 = .ok (.iconst 1, 1) := by decide +kernel
theorem dX8_request_142 : decode cX8_request 142 = .ok (.iadd, 1) := by decide +kernel
theorem dX8_request_143 : decode cX8_request 143 = .ok (.invokevirtual 93, 3) := by decide +kernel
theorem dX8_request_146 : decode cX8_request 146 = .ok (.ireturn, 1) := by decide +kernel
theorem dX8_request_147 : decode cX8_request 147 = .ok (.sipush (-1002), 3) := by decide +kernel
theorem dX8_request_150 : decode cX8_request 150 = .ok (.ireturn, 1) := by decide +kernel
theorem dX8_vehicle_0 : decode cX8_vehicle 0 = .ok (.aload_n 0, 1) := by decide +kernel
theorem dX8_vehicle_1 : decode cX8_vehicle 1 = .ok (.iload_n 1, 1) := by decide +kernel
theorem dX8_vehicle_2 : decode cX8_vehicle 2 = .ok (.invokevirtual 132, 3) := by decide +kernel
theorem dX8_vehicle_5 : decode cX8_vehicle 5 = .ok (.ifCond .eq 7, 3) := by decide +kernel
theorem dX8_vehicle_8 : decode cX8_vehicle 8 = .ok (.sipush (-1001), 3) := by decide +kernel
theorem dX8_vehicle_11 : decode cX8_vehicle 11 = .ok (.ireturn, 1) := by decide +kernel
theorem dX8_vehicle_12 : decode cX8_vehicle 12 = .ok (.aload_n 0, 1) := by decide +kernel
theorem dX8_vehicle_13 : decode cX8_vehicle 13 = .ok (.iload_n 1, 1) := by decide +kernel
theorem dX8_vehicle_14 : decode cX8_vehicle 14 = .ok (.invokevirtual 107, 3) := by decide +kernel
theorem dX8_vehicle_17 : decode cX8_vehicle 17 = .ok (.iconst 0, 1) := by decide +kernel
theorem dX8_vehicle_18 : decode cX8_vehicle 18 = .ok (.istore_n 3, 1) := by decide +kernel
theorem dX8_vehicle_19 : decode cX8_vehicle 19 = .ok (.iconst 0, 1) := by decide +kernel
theorem dX8_vehicle_20 : decode cX8_vehicle 20 = .ok (.istore 4, 2) := by decide +kernel
theorem dX8_vehicle_22 : decode cX8_vehicle 22 = .ok (.iload 4, 2) := by decide +kernel
theorem dX8_vehicle_24 : decode cX8_vehicle 24 = .ok (.aload_n 0, 1) := by decide +kernel
theorem dX8_vehicle_25 : decode cX8_vehicle 25 = .ok (.getfield 82, 3) := by decide +kernel
theorem dX8_vehicle_28 : decode cX8_vehicle 28 = .ok (.if_icmp .ge 23, 3) := by decide +kernel
theorem dX8_vehicle_31 : decode cX8_vehicle 31 = .ok (.iload_n 3, 1) := by decide +kernel
theorem dX8_vehicle_32 : decode cX8_vehicle 32 = .ok (.iconst 1, 1) := by decide +kernel
theorem dX8_vehicle_33 : decode cX8_vehicle 33 = .ok (.aload_n 0, 1) := by decide +kernel
theorem dX8_vehicle_34 : decode cX8_vehicle 34 = .ok (.getfield 46, 3) := by decide +kernel
theorem dX8_vehicle_37 : decode cX8_vehicle 37 = .ok (.iload 4, 2) := by decide +kernel
theorem dX8_vehicle_39 : decode cX8_vehicle 39 = .ok (.iaload, 1) := by decide +kernel
theorem dX8_vehicle_40 : decode cX8_vehicle 40 = .ok (.iconst 2, 1) := by decide +kernel
theorem dX8_vehicle_41 : decode cX8_vehicle 41 = .ok (.idiv, 1) := by decide +kernel
theorem dX8_vehicle_42 : decode cX8_vehicle 42 = .ok (.ishl, 1) := by decide +kernel
theorem dX8_vehicle_43 : decode cX8_vehicle 43 = .ok (.ior, 1) := by decide +kernel
theorem dX8_vehicle_44 : decode cX8_vehicle 44 = .ok (.istore_n 3, 1) := by decide +kernel
theorem dX8_vehicle_45 : decode cX8_vehicle 45 = .ok (.iinc 4 1, 3) := by decide +kernel
theorem dX8_vehicle_48 : decode cX8_vehicle 48 = .ok (.goto (-26), 3) := by decide +kernel
theorem dX8_vehicle_51 : decode cX8_vehicle 51 = .ok (.iload_n 2, 1) := by decide +kernel
theorem dX8_vehicle_52 : decode cX8_vehicle 52 = .ok (.tableswitch 83 0 6 #[44, 51, 58, 65, 70, 76, 81], 44) := by decide +kernel
theorem dX8_vehicle_96 : decode cX8_vehicle 96 = .ok (.aload_n 0, 1) := by decide +kernel
theorem dX8_vehicle_97 : decode cX8_vehicle 97 = .ok (.getfield 16, 3) := by decide +kernel
theorem dX8_vehicle_100 : decode cX8_vehicle 100 = .ok (.iload_n 1, 1) := by decide +kernel
theorem dX8_vehicle_101 : decode cX8_vehicle 101 = .ok (.iaload, 1) := by decide +kernel
theorem dX8_vehicle_102 : decode cX8_vehicle 102 = .ok (.ireturn, 1) := by decide +kernel
theorem dX8_vehicle_103 : decode cX8_vehicle 103 = .ok (.aload_n 0, 1) := by decide +kernel
theorem dX8_vehicle_104 : decode cX8_vehicle 104 = .ok (.getfield 19, 3) := by decide +kernel
theorem dX8_vehicle_107 : decode cX8_vehicle 107 = .ok (.iload_n 1, 1) := by decide +kernel
theorem dX8_vehicle_108 : decode cX8_vehicle 108 = .ok (.iaload, 1) := by decide +kernel
theorem dX8_vehicle_109 : decode cX8_vehicle 109 = .ok (.ireturn, 1) := by decide +kernel
theorem dX8_vehicle_110 : decode cX8_vehicle 110 = .ok (.aload_n 0, 1) := by decide +kernel
theorem dX8_vehicle_111 : decode cX8_vehicle 111 = .ok (.getfield 22, 3) := by decide +kernel
theorem dX8_vehicle_114 : decode cX8_vehicle 114 = .ok (.iload_n 1, 1) := by decide +kernel
theorem dX8_vehicle_115 : decode cX8_vehicle 115 = .ok (.iaload, 1) := by decide +kernel
theorem dX8_vehicle_116 : decode cX8_vehicle 116 = .ok (.ireturn, 1) := by decide +kernel
theorem dX8_vehicle_117 : decode cX8_vehicle 117 = .ok (.aload_n 0, 1) := by decide +kernel
theorem dX8_vehicle_118 : decode cX8_vehicle 118 = .ok (.getfield 82, 3) := by decide +kernel
theorem dX8_vehicle_121 : decode cX8_vehicle 121 = .ok (.ireturn, 1) := by decide +kernel
theorem dX8_vehicle_122 : decode cX8_vehicle 122 = .ok (.aload_n 0, 1) := by decide +kernel
theorem dX8_vehicle_123 : decode cX8_vehicle 123 = .ok (.iload_n 1, 1) := by decide +kernel
theorem dX8_vehicle_124 : decode cX8_vehicle 124 = .ok (.invokevirtual 126, 3) := by decide +kernel
theorem dX8_vehicle_127 : decode cX8_vehicle 127 = .ok (.ireturn, 1) := by decide +kernel
theorem dX8_vehicle_128 : decode cX8_vehicle 128 = .ok (.aload_n 0, 1) := by decide +kernel
theorem dX8_vehicle_129 : decode cX8_vehicle 129 = .ok (.invokevirtual 99, 3) := by decide +kernel
theorem dX8_vehicle_132 : decode cX8_vehicle 132 = .ok (.ireturn, 1) := by decide +kernel
theorem dX8_vehicle_133 : decode cX8_vehicle 133 = .ok (.iload_n 3, 1) := by decide +kernel
theorem dX8_vehicle_134 : decode cX8_vehicle 134 = .ok (.ireturn, 1) := by decide +kernel
theorem dX8_vehicle_135 : decode cX8_vehicle 135 = .ok (.sipush (-1002), 3) := by decide +kernel
theorem dX8_vehicle_138 : decode cX8_vehicle 138 = .ok (.ireturn, 1) := by decide +kernel
theorem dX8_schedule_0 : decode cX8_schedule 0 = .ok (.aload_n 0, 1) := by decide +kernel
theorem dX8_schedule_1 : decode cX8_schedule 1 = .ok (.iload_n 1, 1) := by decide +kernel
theorem dX8_schedule_2 : decode cX8_schedule 2 = .ok (.invokevirtual 107, 3) := by decide +kernel
theorem dX8_schedule_5 : decode cX8_schedule 5 = .ok (.aload_n 0, 1) := by decide +kernel
theorem dX8_schedule_6 : decode cX8_schedule 6 = .ok (.iload_n 1, 1) := by decide +kernel
theorem dX8_schedule_7 : decode cX8_schedule 7 = .ok (.invokevirtual 103, 3) := by decide +kernel
theorem dX8_schedule_10 : decode cX8_schedule 10 = .ok (.pop, 1) := by decide +kernel
theorem dX8_schedule_11 : decode cX8_schedule 11 = .ok (.aload_n 0, 1) := by decide +kernel
theorem dX8_schedule_12 : decode cX8_schedule 12 = .ok (.iload_n 1, 1) := by decide +kernel
theorem dX8_schedule_13 : decode cX8_schedule 13 = .ok (.invokevirtual 135, 3) := by decide +kernel
theorem dX8_schedule_16 : decode cX8_schedule 16 = .ok (.return_, 1) := by decide +kernel
theorem dX8_stop_0 : decode cX8_stop 0 = .ok (.aload_n 0, 1) := by decide +kernel
theorem dX8_stop_1 : decode cX8_stop 1 = .ok (.iload_n 1, 1) := by decide +kernel
theorem dX8_stop_2 : decode cX8_stop 2 = .ok (.invokevirtual 132, 3) := by decide +kernel
theorem dX8_stop_5 : decode cX8_stop 5 = .ok (.ifCond .ne 22, 3) := by decide +kernel
theorem dX8_stop_8 : decode cX8_stop 8 = .ok (.iload_n 2, 1) := by decide +kernel
theorem dX8_stop_9 : decode cX8_stop 9 = .ok (.iconst 0, 1) := by decide +kernel
theorem dX8_stop_10 : decode cX8_stop 10 = .ok (.aload_n 0, 1) := by decide +kernel
theorem dX8_stop_11 : decode cX8_stop 11 = .ok (.getfield 43, 3) := by decide +kernel
theorem dX8_stop_14 : decode cX8_stop 14 = .ok (.bipush 96, 2) := by decide +kernel
theorem dX8_stop_16 : decode cX8_stop 16 = .ok (.iload_n 1, 1) := by decide +kernel
theorem dX8_stop_17 : decode cX8_stop 17 = .ok (.iadd, 1) := by decide +kernel
theorem dX8_stop_18 : decode cX8_stop 18 = .ok (.iaload, 1) := by decide +kernel
theorem dX8_stop_19 : decode cX8_stop 19 = .ok (.iconst 1, 1) := by decide +kernel
theorem dX8_stop_20 : decode cX8_stop 20 = .ok (.isub, 1) := by decide +kernel
theorem dX8_stop_21 : decode cX8_stop 21 = .ok (.invokestatic 65, 3) := by decide +kernel
theorem dX8_stop_24 : decode cX8_stop 24 = .ok (.ifCond .ne 7, 3) := by decide +kernel
theorem dX8_stop_27 : decode cX8_stop 27 = .ok (.sipush (-1001), 3) := by decide +kernel
theorem dX8_stop_30 : decode cX8_stop 30 = .ok (.ireturn, 1) := by decide +kernel
theorem dX8_stop_31 : decode cX8_stop 31 = .ok (.aload_n 0, 1) := by decide +kernel
theorem dX8_stop_32 : decode cX8_stop 32 = .ok (.iload_n 1, 1) := by decide +kernel
theorem dX8_stop_33 : decode cX8_stop 33 = .ok (.invokevirtual 138, 3) := by decide +kernel
theorem dX8_stop_36 : decode cX8_stop 36 = .ok (.iconst 0, 1) := by decide +kernel
theorem dX8_stop_37 : decode cX8_stop 37 = .ok (.istore 4, 2) := by decide +kernel
theorem dX8_stop_39 : decode cX8_stop 39 = .ok (.iconst 0, 1) := by decide +kernel
theorem dX8_stop_40 : decode cX8_stop 40 = .ok (.istore 5, 2) := by decide +kernel
theorem dX8_stop_42 : decode cX8_stop 42 = .ok (.iload 5, 2) := by decide +kernel
theorem dX8_stop_44 : decode cX8_stop 44 = .ok (.iload_n 2, 1) := by decide +kernel
theorem dX8_stop_45 : decode cX8_stop 45 = .ok (.if_icmp .gt 58, 3) := by decide +kernel
theorem dX8_stop_48 : decode cX8_stop 48 = .ok (.iload 4, 2) := by decide +kernel
theorem dX8_stop_50 : decode cX8_stop 50 = .ok (.aload_n 0, 1) := by decide +kernel
theorem dX8_stop_51 : decode cX8_stop 51 = .ok (.getfield 46, 3) := by decide +kernel
theorem dX8_stop_54 : decode cX8_stop 54 = .ok (.iload 5, 2) := by decide +kernel
theorem dX8_stop_56 : decode cX8_stop 56 = .ok (.iaload, 1) := by decide +kernel
theorem dX8_stop_57 : decode cX8_stop 57 = .ok (.iconst 2, 1) := by decide +kernel
theorem dX8_stop_58 : decode cX8_stop 58 = .ok (.irem, 1) := by decide +kernel
theorem dX8_stop_59 : decode cX8_stop 59 = .ok (.ifCond .ne 20, 3) := by decide +kernel
theorem dX8_stop_62 : decode cX8_stop 62 = .ok (.aload_n 0, 1) := by decide +kernel
theorem dX8_stop_63 : decode cX8_stop 63 = .ok (.getfield 37, 3) := by decide +kernel
theorem dX8_stop_66 : decode cX8_stop 66 = .ok (.aload_n 0, 1) := by decide +kernel
theorem dX8_stop_67 : decode cX8_stop 67 = .ok (.getfield 46, 3) := by decide +kernel
theorem dX8_stop_70 : decode cX8_stop 70 = .ok (.iload 5, 2) := by decide +kernel
theorem dX8_stop_72 : decode cX8_stop 72 = .ok (.iaload, 1) := by decide +kernel
theorem dX8_stop_73 : decode cX8_stop 73 = .ok (.iconst 2, 1) := by decide +kernel
theorem dX8_stop_74 : decode cX8_stop 74 = .ok (.idiv, 1) := by decide +kernel
theorem dX8_stop_75 : decode cX8_stop 75 = .ok (.iaload, 1) := by decide +kernel
theorem dX8_stop_76 : decode cX8_stop 76 = .ok (.goto 18, 3) := by decide +kernel
theorem dX8_stop_79 : decode cX8_stop 79 = .ok (.aload_n 0, 1) := by decide +kernel
theorem dX8_stop_80 : decode cX8_stop 80 = .ok (.getfield 37, 3) := by decide +kernel
theorem dX8_stop_83 : decode cX8_stop 83 = .ok (.aload_n 0, 1) := by decide +kernel
theorem dX8_stop_84 : decode cX8_stop 84 = .ok (.getfield 46, 3) := by decide +kernel
theorem dX8_stop_87 : decode cX8_stop 87 = .ok (.iload 5, 2) := by decide +kernel
theorem dX8_stop_89 : decode cX8_stop 89 = .ok (.iaload, 1) := by decide +kernel
theorem dX8_stop_90 : decode cX8_stop 90 = .ok (.iconst 2, 1) := by decide +kernel
theorem dX8_stop_91 : decode cX8_stop 91 = .ok (.idiv, 1) := by decide +kernel
theorem dX8_stop_92 : decode cX8_stop 92 = .ok (.iaload, 1) := by decide +kernel
theorem dX8_stop_93 : decode cX8_stop 93 = .ok (.ineg, 1) := by decide +kernel
theorem dX8_stop_94 : decode cX8_stop 94 = .ok (.iadd, 1) := by decide +kernel
theorem dX8_stop_95 : decode cX8_stop 95 = .ok (.istore 4, 2) := by decide +kernel
theorem dX8_stop_97 : decode cX8_stop 97 = .ok (.iinc 5 1, 3) := by decide +kernel
theorem dX8_stop_100 : decode cX8_stop 100 = .ok (.goto (-58), 3) := by decide +kernel
theorem dX8_stop_103 : decode cX8_stop 103 = .ok (.iload_n 2, 1) := by decide +kernel
theorem dX8_stop_104 : decode cX8_stop 104 = .ok (.ifCond .ne 24, 3) := by decide +kernel
theorem dX8_stop_107 : decode cX8_stop 107 = .ok (.aload_n 0, 1) := by decide +kernel
theorem dX8_stop_108 : decode cX8_stop 108 = .ok (.getfield 19, 3) := by decide +kernel
theorem dX8_stop_111 : decode cX8_stop 111 = .ok (.iload_n 1, 1) := by decide +kernel
theorem dX8_stop_112 : decode cX8_stop 112 = .ok (.iaload, 1) := by decide +kernel
theorem dX8_stop_113 : decode cX8_stop 113 = .ok (.aload_n 0, 1) := by decide +kernel
theorem dX8_stop_114 : decode cX8_stop 114 = .ok (.iload_n 1, 1) := by decide +kernel
theorem dX8_stop_115 : decode cX8_stop 115 = .ok (.aload_n 0, 1) := by decide +kernel
theorem dX8_stop_116 : decode cX8_stop 116 = .ok (.getfield 46, 3) := by decide +kernel
theorem dX8_stop_119 : decode cX8_stop 119 = .ok (.iconst 0, 1) := by decide +kernel
theorem dX8_stop_120 : decode cX8_stop 120 = .ok (.iaload, 1) := by decide +kernel
theorem dX8_stop_121 : decode cX8_stop 121 = .ok (.invokevirtual 89, 3) := by decide +kernel
theorem dX8_stop_124 : decode cX8_stop 124 = .ok (.iadd, 1) := by decide +kernel
theorem dX8_stop_125 : decode cX8_stop 125 = .ok (.goto 35, 3) := by decide +kernel
theorem dX8_stop_128 : decode cX8_stop 128 = .ok (.aload_n 0, 1) := by decide +kernel
theorem dX8_stop_129 : decode cX8_stop 129 = .ok (.getfield 49, 3) := by decide +kernel
theorem dX8_stop_132 : decode cX8_stop 132 = .ok (.iload_n 2, 1) := by decide +kernel
theorem dX8_stop_133 : decode cX8_stop 133 = .ok (.iconst 1, 1) := by decide +kernel
theorem dX8_stop_134 : decode cX8_stop 134 = .ok (.isub, 1) := by decide +kernel
theorem dX8_stop_135 : decode cX8_stop 135 = .ok (.iaload, 1) := by decide +kernel
theorem dX8_stop_136 : decode cX8_stop 136 = .ok (.aload_n 0, 1) := by decide +kernel
theorem dX8_stop_137 : decode cX8_stop 137 = .ok (.getfield 61, 3) := by decide +kernel
theorem dX8_stop_140 : decode cX8_stop 140 = .ok (.iadd, 1) := by decide +kernel
theorem dX8_stop_141 : decode cX8_stop 141 = .ok (.aload_n 0, 1) := by decide +kernel
theorem dX8_stop_142 : decode cX8_stop 142 = .ok (.aload_n 0, 1) := by decide +kernel
theorem dX8_stop_143 : decode cX8_stop 143 = .ok (.getfield 46, 3) := by decide +kernel
theorem dX8_stop_146 : decode cX8_stop 146 = .ok (.iload_n 2, 1) := by decide +kernel
theorem dX8_stop_147 : decode cX8_stop 147 = .ok (.iconst 1, 1) := by decide +kernel
theorem dX8_stop_148 : decode cX8_stop 148 = .ok (.isub, 1) := by decide +kernel
theorem dX8_stop_149 : decode cX8_stop 149 = .ok (.iaload, 1) := by decide +kernel
theorem dX8_stop_150 : decode cX8_stop 150 = .ok (.aload_n 0, 1) := by decide +kernel
theorem dX8_stop_151 : decode cX8_stop 151 = .ok (.getfield 46, 3) := by decide +kernel
theorem dX8_stop_154 : decode cX8_stop 154 = .ok (.iload_n 2, 1) := by decide +kernel
theorem dX8_stop_155 : decode cX8_stop 155 = .ok (.iaload, 1) := by decide +kernel
theorem dX8_stop_156 : decode cX8_stop 156 = .ok (.invokevirtual 93, 3) := by decide +kernel
theorem dX8_stop_159 : decode cX8_stop 159 = .ok (.iadd, 1) := by decide +kernel
theorem dX8_stop_160 : decode cX8_stop 160 = .ok (.istore 5, 2) := by decide +kernel
theorem dX8_stop_162 : decode cX8_stop 162 = .ok (.iload_n 3, 1) := by decide +kernel
theorem dX8_stop_163 : decode cX8_stop 163 = .ok (.tableswitch 82 0 5 #[37, 46, 55, 62, 69, 72], 37) := by decide +kernel
theorem dX8_stop_200 : decode cX8_stop 200 = .ok (.aload_n 0, 1) := by decide +kernel
theorem dX8_stop_201 : decode cX8_stop 201 = .ok (.getfield 46, 3) := by decide +kernel
theorem dX8_stop_204 : decode cX8_stop 204 = .ok (.iload_n 2, 1) := by decide +kernel
theorem dX8_stop_205 : decode cX8_stop 205 = .ok (.iaload, 1) := by decide +kernel
theorem dX8_stop_206 : decode cX8_stop 206 = .ok (.iconst 2, 1) := by decide +kernel
theorem dX8_stop_207 : decode cX8_stop 207 = .ok (.idiv, 1) := by decide +kernel
theorem dX8_stop_208 : decode cX8_stop 208 = .ok (.ireturn, 1) := by decide +kernel
theorem dX8_stop_209 : decode cX8_stop 209 = .ok (.aload_n 0, 1) := by decide +kernel
theorem dX8_stop_210 : decode cX8_stop 210 = .ok (.getfield 46, 3) := by decide +kernel
theorem dX8_stop_213 : decode cX8_stop 213 = .ok (.iload_n 2, 1) := by decide +kernel
theorem dX8_stop_214 : decode cX8_stop 214 = .ok (.iaload, 1) := by decide +kernel
theorem dX8_stop_215 : decode cX8_stop 215 = .ok (.iconst 2, 1) := by decide +kernel
theorem dX8_stop_216 : decode cX8_stop 216 = .ok (.irem, 1) := by decide +kernel
theorem dX8_stop_217 : decode cX8_stop 217 = .ok (.ireturn, 1) := by decide +kernel
theorem dX8_stop_218 : decode cX8_stop 218 = .ok (.aload_n 0, 1) := by decide +kernel
theorem dX8_stop_219 : decode cX8_stop 219 = .ok (.getfield 49, 3) := by decide +kernel
theorem dX8_stop_222 : decode cX8_stop 222 = .ok (.iload_n 2, 1) := by decide +kernel
theorem dX8_stop_223 : decode cX8_stop 223 = .ok (.iaload, 1) := by decide +kernel
theorem dX8_stop_224 : decode cX8_stop 224 = .ok (.ireturn, 1) := by decide +kernel
theorem dX8_stop_225 : decode cX8_stop 225 = .ok (.aload_n 0, 1) := by decide +kernel
theorem dX8_stop_226 : decode cX8_stop 226 = .ok (.getfield 52, 3) := by decide +kernel
theorem dX8_stop_229 : decode cX8_stop 229 = .ok (.iload_n 2, 1) := by decide +kernel
theorem dX8_stop_230 : decode cX8_stop 230 = .ok (.iaload, 1) := by decide +kernel
theorem dX8_stop_231 : decode cX8_stop 231 = .ok (.ireturn, 1) := by decide +kernel
theorem dX8_stop_232 : decode cX8_stop 232 = .ok (.iload 4, 2) := by decide +kernel
theorem dX8_stop_234 : decode cX8_stop 234 = .ok (.ireturn, 1) := by decide +kernel
theorem dX8_stop_235 : decode cX8_stop 235 = .ok (.aload_n 0, 1) := by decide +kernel
theorem dX8_stop_236 : decode cX8_stop 236 = .ok (.getfield 49, 3) := by decide +kernel
theorem dX8_stop_239 : decode cX8_stop 239 = .ok (.iload_n 2, 1) := by decide +kernel
theorem dX8_stop_240 : decode cX8_stop 240 = .ok (.iaload, 1) := by decide +kernel
theorem dX8_stop_241 : decode cX8_stop 241 = .ok (.iload 5, 2) := by decide +kernel
theorem dX8_stop_243 : decode cX8_stop 243 = .ok (.isub, 1) := by decide +kernel
theorem dX8_stop_244 : decode cX8_stop 244 = .ok (.ireturn, 1) := by decide +kernel
theorem dX8_stop_245 : decode cX8_stop 245 = .ok (.sipush (-1002), 3) := by decide +kernel
theorem dX8_stop_248 : decode cX8_stop 248 = .ok (.ireturn, 1) := by decide +kernel
theorem dX8_rideTime_0 : decode cX8_rideTime 0 = .ok (.aload_n 0, 1) := by decide +kernel
theorem dX8_rideTime_1 : decode cX8_rideTime 1 = .ok (.iload_n 1, 1) := by decide +kernel
theorem dX8_rideTime_2 : decode cX8_rideTime 2 = .ok (.invokevirtual 120, 3) := by decide +kernel
theorem dX8_rideTime_5 : decode cX8_rideTime 5 = .ok (.ifCond .eq 7, 3) := by decide +kernel
theorem dX8_rideTime_8 : decode cX8_rideTime 8 = .ok (.sipush (-1001), 3) := by decide +kernel
theorem dX8_rideTime_11 : decode cX8_rideTime 11 = .ok (.ireturn, 1) := by decide +kernel
theorem dX8_rideTime_12 : decode cX8_rideTime 12 = .ok (.aload_n 0, 1) := by decide +kernel
theorem dX8_rideTime_13 : decode cX8_rideTime 13 = .ok (.iload_n 1, 1) := by decide +kernel
theorem dX8_rideTime_14 : decode cX8_rideTime 14 = .ok (.invokevirtual 114, 3) := by decide +kernel
theorem dX8_rideTime_17 : decode cX8_rideTime 17 = .ok (.istore_n 3, 1) := by decide +kernel
theorem dX8_rideTime_18 : decode cX8_rideTime 18 = .ok (.iload_n 3, 1) := by decide +kernel
theorem dX8_rideTime_19 : decode cX8_rideTime 19 = .ok (.ifCond .ge 7, 3) := by decide +kernel
theorem dX8_rideTime_22 : decode cX8_rideTime 22 = .ok (.sipush (-1004), 3) := by decide +kernel
theorem dX8_rideTime_25 : decode cX8_rideTime 25 = .ok (.ireturn, 1) := by decide +kernel
theorem dX8_rideTime_26 : decode cX8_rideTime 26 = .ok (.aload_n 0, 1) := by decide +kernel
theorem dX8_rideTime_27 : decode cX8_rideTime 27 = .ok (.iload_n 3, 1) := by decide +kernel
theorem dX8_rideTime_28 : decode cX8_rideTime 28 = .ok (.invokevirtual 138, 3) := by decide +kernel
theorem dX8_rideTime_31 : decode cX8_rideTime 31 = .ok (.aload_n 0, 1) := by decide +kernel
theorem dX8_rideTime_32 : decode cX8_rideTime 32 = .ok (.iconst 2, 1) := by decide +kernel
theorem dX8_rideTime_33 : decode cX8_rideTime 33 = .ok (.iload_n 1, 1) := by decide +kernel
theorem dX8_rideTime_34 : decode cX8_rideTime 34 = .ok (.imul, 1) := by decide +kernel
theorem dX8_rideTime_35 : decode cX8_rideTime 35 = .ok (.invokevirtual 96, 3) := by decide +kernel
theorem dX8_rideTime_38 : decode cX8_rideTime 38 = .ok (.istore 4, 2) := by decide +kernel
theorem dX8_rideTime_40 : decode cX8_rideTime 40 = .ok (.aload_n 0, 1) := by decide +kernel
theorem dX8_rideTime_41 : decode cX8_rideTime 41 = .ok (.iconst 2, 1) := by decide +kernel
theorem dX8_rideTime_42 : decode cX8_rideTime 42 = .ok (.iload_n 1, 1) := by decide +kernel
theorem dX8_rideTime_43 : decode cX8_rideTime 43 = .ok (.imul, 1) := by decide +kernel
theorem dX8_rideTime_44 : decode cX8_rideTime 44 = .ok (.iconst 1, 1) := by decide +kernel
theorem dX8_rideTime_45 : decode cX8_rideTime 45 = .ok (.iadd, 1) := by decide +kernel
theorem dX8_rideTime_46 : decode cX8_rideTime 46 = .ok (.invokevirtual 96, 3) := by decide +kernel
theorem dX8_rideTime_49 : decode cX8_rideTime 49 = .ok (.istore 5, 2) := by decide +kernel
theorem dX8_rideTime_51 : decode cX8_rideTime 51 = .ok (.iload_n 2, 1) := by decide +kernel
theorem dX8_rideTime_52 : decode cX8_rideTime 52 = .ok (.ifCond .eq 21, 3) := by decide +kernel
theorem dX8_rideTime_55 : decode cX8_rideTime 55 = .ok (.aload_n 0, 1) := by decide +kernel
theorem dX8_rideTime_56 : decode cX8_rideTime 56 = .ok (.getfield 52, 3) := by decide +kernel
theorem dX8_rideTime_59 : decode cX8_rideTime 59 = .ok (.iload 5, 2) := by decide +kernel
theorem dX8_rideTime_61 : decode cX8_rideTime 61 = .ok (.iaload, 1) := by decide +kernel
theorem dX8_rideTime_62 : decode cX8_rideTime 62 = .ok (.aload_n 0, 1) := by decide +kernel
theorem dX8_rideTime_63 : decode cX8_rideTime 63 = .ok (.getfield 52, 3) := by decide +kernel
theorem dX8_rideTime_66 : decode cX8_rideTime 66 = .ok (.iload 4, 2) := by decide +kernel
theorem dX8_rideTime_68 : decode cX8_rideTime 68 = .ok (.iaload, 1) := by decide +kernel
theorem dX8_rideTime_69 : decode cX8_rideTime 69 = .ok (.isub, 1) := by decide +kernel
theorem dX8_rideTime_70 : decode cX8_rideTime 70 = .ok (.goto 18, 3) := by decide +kernel
theorem dX8_rideTime_73 : decode cX8_rideTime 73 = .ok (.aload_n 0, 1) := by decide +kernel
theorem dX8_rideTime_74 : decode cX8_rideTime 74 = .ok (.getfield 49, 3) := by decide +kernel
theorem dX8_rideTime_77 : decode cX8_rideTime 77 = .ok (.iload 5, 2) := by decide +kernel
theorem dX8_rideTime_79 : decode cX8_rideTime 79 = .ok (.iaload, 1) := by decide +kernel
theorem dX8_rideTime_80 : decode cX8_rideTime 80 = .ok (.aload_n 0, 1) := by decide +kernel
theorem dX8_rideTime_81 : decode cX8_rideTime 81 = .ok (.getfield 49, 3) := by decide +kernel
theorem dX8_rideTime_84 : decode cX8_rideTime 84 = .ok (.iload 4, 2) := by decide +kernel
theorem dX8_rideTime_86 : decode cX8_rideTime 86 = .ok (.iaload, 1) := by decide +kernel
theorem dX8_rideTime_87 : decode cX8_rideTime 87 = .ok (.isub, 1) := by decide +kernel
theorem dX8_rideTime_88 : decode cX8_rideTime 88 = .ok (.aload_n 0, 1) := by decide +kernel
theorem dX8_rideTime_89 : decode cX8_rideTime 89 = .ok (.getfield 61, 3) := by decide +kernel
theorem dX8_rideTime_92 : decode cX8_rideTime 92 = .ok (.isub, 1) := by decide +kernel
theorem dX8_rideTime_93 : decode cX8_rideTime 93 = .ok (.ireturn, 1) := by decide +kernel
theorem dX8_depotTime_0 : decode cX8_depotTime 0 = .ok (.aload_n 0, 1) := by decide +kernel
theorem dX8_depotTime_1 : decode cX8_depotTime 1 = .ok (.iload_n 1, 1) := by decide +kernel
theorem dX8_depotTime_2 : decode cX8_depotTime 2 = .ok (.invokevirtual 132, 3) := by decide +kernel
theorem dX8_depotTime_5 : decode cX8_depotTime 5 = .ok (.ifCond .eq 7, 3) := by decide +kernel
theorem dX8_depotTime_8 : decode cX8_depotTime 8 = .ok (.sipush (-1001), 3) := by decide +kernel
theorem dX8_depotTime_11 : decode cX8_depotTime 11 = .ok (.ireturn, 1) := by decide +kernel
theorem dX8_depotTime_12 : decode cX8_depotTime 12 = .ok (.aload_n 0, 1) := by decide +kernel
theorem dX8_depotTime_13 : decode cX8_depotTime 13 = .ok (.iload_n 1, 1) := by decide +kernel
theorem dX8_depotTime_14 : decode cX8_depotTime 14 = .ok (.invokevirtual 138, 3) := by decide +kernel
theorem dX8_depotTime_17 : decode cX8_depotTime 17 = .ok (.aload_n 0, 1) := by decide +kernel
theorem dX8_depotTime_18 : decode cX8_depotTime 18 = .ok (.getfield 82, 3) := by decide +kernel
theorem dX8_depotTime_21 : decode cX8_depotTime 21 = .ok (.ifCond .ne 7, 3) := by decide +kernel
theorem dX8_depotTime_24 : decode cX8_depotTime 24 = .ok (.sipush (-1007), 3) := by decide +kernel
theorem dX8_depotTime_27 : decode cX8_depotTime 27 = .ok (.ireturn, 1) := by decide +kernel
theorem dX8_depotTime_28 : decode cX8_depotTime 28 = .ok (.iload_n 2, 1) := by decide +kernel
theorem dX8_depotTime_29 : decode cX8_depotTime 29 = .ok (.ifCond .eq 39, 3) := by decide +kernel
theorem dX8_depotTime_32 : decode cX8_depotTime 32 = .ok (.aload_n 0, 1) := by decide +kernel
theorem dX8_depotTime_33 : decode cX8_depotTime 33 = .ok (.getfield 49, 3) := by decide +kernel
theorem dX8_depotTime_36 : decode cX8_depotTime 36 = .ok (.aload_n 0, 1) := by decide +kernel
theorem dX8_depotTime_37 : decode cX8_depotTime 37 = .ok (.getfield 82, 3) := by decide +kernel
theorem dX8_depotTime_40 : decode cX8_depotTime 40 = .ok (.iconst 1, 1) := by decide +kernel
theorem dX8_depotTime_41 : decode cX8_depotTime 41 = .ok (.isub, 1) := by decide +kernel
theorem dX8_depotTime_42 : decode cX8_depotTime 42 = .ok (.iaload, 1) := by decide +kernel
theorem dX8_depotTime_43 : decode cX8_depotTime 43 = .ok (.aload_n 0, 1) := by decide +kernel
theorem dX8_depotTime_44 : decode cX8_depotTime 44 = .ok (.getfield 61, 3) := by decide +kernel
theorem dX8_depotTime_47 : decode cX8_depotTime 47 = .ok (.iadd, 1) := by decide +kernel
theorem dX8_depotTime_48 : decode cX8_depotTime 48 = .ok (.aload_n 0, 1) := by decide +kernel
theorem dX8_depotTime_49 : decode cX8_depotTime 49 = .ok (.iload_n 1, 1) := by decide +kernel
theorem dX8_depotTime_50 : decode cX8_depotTime 50 = .ok (.aload_n 0, 1) := by decide +kernel
theorem dX8_depotTime_51 : decode cX8_depotTime 51 = .ok (.getfield 46, 3) := by decide +kernel
theorem dX8_depotTime_54 : decode cX8_depotTime 54 = .ok (.aload_n 0, 1) := by decide +kernel
theorem dX8_depotTime_55 : decode cX8_depotTime 55 = .ok (.getfield 82, 3) := by decide +kernel
theorem dX8_depotTime_58 : decode cX8_depotTime 58 = .ok (.iconst 1, 1) := by decide +kernel
theorem dX8_depotTime_59 : decode cX8_depotTime 59 = .ok (.isub, 1) := by decide +kernel
theorem dX8_depotTime_60 : decode cX8_depotTime 60 = .ok (.iaload, 1) := by decide +kernel
theorem dX8_depotTime_61 : decode cX8_depotTime 61 = .ok (.invokevirtual 89, 3) := by decide +kernel
theorem dX8_depotTime_64 : decode cX8_depotTime 64 = .ok (.iadd, 1) := by decide +kernel
theorem dX8_depotTime_65 : decode cX8_depotTime 65 = .ok (.goto 21, 3) := by decide +kernel
theorem dX8_depotTime_68 : decode cX8_depotTime 68 = .ok (.aload_n 0, 1) := by decide +kernel
theorem dX8_depotTime_69 : decode cX8_depotTime 69 = .ok (.getfield 52, 3) := by decide +kernel
theorem dX8_depotTime_72 : decode cX8_depotTime 72 = .ok (.iconst 0, 1) := by decide +kernel
theorem dX8_depotTime_73 : decode cX8_depotTime 73 = .ok (.iaload, 1) := by decide +kernel
theorem dX8_depotTime_74 : decode cX8_depotTime 74 = .ok (.aload_n 0, 1) := by decide +kernel
theorem dX8_depotTime_75 : decode cX8_depotTime 75 = .ok (.iload_n 1, 1) := by decide +kernel
theorem dX8_depotTime_76 : decode cX8_depotTime 76 = .ok (.aload_n 0, 1) := by decide +kernel
theorem dX8_depotTime_77 : decode cX8_depotTime 77 = .ok (.getfield 46, 3) := by decide +kernel
theorem dX8_depotTime_80 : decode cX8_depotTime 80 = .ok (.iconst 0, 1) := by decide +kernel
theorem dX8_depotTime_81 : decode cX8_depotTime 81 = .ok (.iaload, 1) := by decide +kernel
theorem dX8_depotTime_82 : decode cX8_depotTime 82 = .ok (.invokevirtual 89, 3) := by decide +kernel
theorem dX8_depotTime_85 : decode cX8_depotTime 85 = .ok (.isub, 1) := by decide +kernel
theorem dX8_depotTime_86 : decode cX8_depotTime 86 = .ok (.ireturn, 1) := by decide +kernel
theorem dX8_takeWith_0 : decode cX8_takeWith 0 = .ok (.aload_n 0, 1) := by decide +kernel
theorem dX8_takeWith_1 : decode cX8_takeWith 1 = .ok (.aload_n 0, 1) := by decide +kernel
theorem dX8_takeWith_2 : decode cX8_takeWith 2 = .ok (.getfield 43, 3) := by decide +kernel
theorem dX8_takeWith_5 : decode cX8_takeWith 5 = .ok (.bipush 96, 2) := by decide +kernel
theorem dX8_takeWith_7 : decode cX8_takeWith 7 = .ok (.iload_n 1, 1) := by decide +kernel
theorem dX8_takeWith_8 : decode cX8_takeWith 8 = .ok (.iadd, 1) := by decide +kernel
theorem dX8_takeWith_9 : decode cX8_takeWith 9 = .ok (.iaload, 1) := by decide +kernel
theorem dX8_takeWith_10 : decode cX8_takeWith 10 = .ok (.iconst 2, 1) := by decide +kernel
theorem dX8_takeWith_11 : decode cX8_takeWith 11 = .ok (.iadd, 1) := by decide +kernel
theorem dX8_takeWith_12 : decode cX8_takeWith 12 = .ok (.putfield 82, 3) := by decide +kernel
theorem dX8_takeWith_15 : decode cX8_takeWith 15 = .ok (.iconst 0, 1) := by decide +kernel
theorem dX8_takeWith_16 : decode cX8_takeWith 16 = .ok (.istore 5, 2) := by decide +kernel
theorem dX8_takeWith_18 : decode cX8_takeWith 18 = .ok (.iconst 0, 1) := by decide +kernel
theorem dX8_takeWith_19 : decode cX8_takeWith 19 = .ok (.istore 6, 2) := by decide +kernel
theorem dX8_takeWith_21 : decode cX8_takeWith 21 = .ok (.iload 6, 2) := by decide +kernel
theorem dX8_takeWith_23 : decode cX8_takeWith 23 = .ok (.aload_n 0, 1) := by decide +kernel
theorem dX8_takeWith_24 : decode cX8_takeWith 24 = .ok (.getfield 82, 3) := by decide +kernel
theorem dX8_takeWith_27 : decode cX8_takeWith 27 = .ok (.if_icmp .ge 70, 3) := by decide +kernel
theorem dX8_takeWith_30 : decode cX8_takeWith 30 = .ok (.iload 6, 2) := by decide +kernel
theorem dX8_takeWith_32 : decode cX8_takeWith 32 = .ok (.iload_n 3, 1) := by decide +kernel
theorem dX8_takeWith_33 : decode cX8_takeWith 33 = .ok (.if_icmp .eq 10, 3) := by decide +kernel
theorem dX8_takeWith_36 : decode cX8_takeWith 36 = .ok (.iload 6, 2) := by decide +kernel
theorem dX8_takeWith_38 : decode cX8_takeWith 38 = .ok (.iload 4, 2) := by decide +kernel
theorem dX8_takeWith_40 : decode cX8_takeWith 40 = .ok (.if_icmp .ne 29, 3) := by decide +kernel
theorem dX8_takeWith_43 : decode cX8_takeWith 43 = .ok (.aload_n 0, 1) := by decide +kernel
theorem dX8_takeWith_44 : decode cX8_takeWith 44 = .ok (.getfield 46, 3) := by decide +kernel
theorem dX8_takeWith_47 : decode cX8_takeWith 47 = .ok (.iload 6, 2) := by decide +kernel
theorem dX8_takeWith_49 : decode cX8_takeWith 49 = .ok (.iconst 2, 1) := by decide +kernel
theorem dX8_takeWith_50 : decode cX8_takeWith 50 = .ok (.iload_n 2, 1) := by decide +kernel
theorem dX8_takeWith_51 : decode cX8_takeWith 51 = .ok (.imul, 1) := by decide +kernel
theorem dX8_takeWith_52 : decode cX8_takeWith 52 = .ok (.iload 6, 2) := by decide +kernel
theorem dX8_takeWith_54 : decode cX8_takeWith 54 = .ok (.iload 4, 2) := by decide +kernel
theorem dX8_takeWith_56 : decode cX8_takeWith 56 = .ok (.if_icmp .ne 7, 3) := by decide +kernel
theorem dX8_takeWith_59 : decode cX8_takeWith 59 = .ok (.iconst 1, 1) := by decide +kernel
theorem dX8_takeWith_60 : decode cX8_takeWith 60 = .ok (.goto 4, 3) := by decide +kernel
theorem dX8_takeWith_63 : decode cX8_takeWith 63 = .ok (.iconst 0, 1) := by decide +kernel
theorem dX8_takeWith_64 : decode cX8_takeWith 64 = .ok (.iadd, 1) := by decide +kernel
theorem dX8_takeWith_65 : decode cX8_takeWith 65 = .ok (.iastore, 1) := by decide +kernel
theorem dX8_takeWith_66 : decode cX8_takeWith 66 = .ok (.goto 25, 3) := by decide +kernel
theorem dX8_takeWith_69 : decode cX8_takeWith 69 = .ok (.aload_n 0, 1) := by decide +kernel
theorem dX8_takeWith_70 : decode cX8_takeWith 70 = .ok (.getfield 46, 3) := by decide +kernel
theorem dX8_takeWith_73 : decode cX8_takeWith 73 = .ok (.iload 6, 2) := by decide +kernel
theorem dX8_takeWith_75 : decode cX8_takeWith 75 = .ok (.aload_n 0, 1) := by decide +kernel
theorem dX8_takeWith_76 : decode cX8_takeWith 76 = .ok (.getfield 43, 3) := by decide +kernel
theorem dX8_takeWith_79 : decode cX8_takeWith 79 = .ok (.bipush 24, 2) := by decide +kernel
theorem dX8_takeWith_81 : decode cX8_takeWith 81 = .ok (.iload_n 1, 1) := by decide +kernel
theorem dX8_takeWith_82 : decode cX8_takeWith 82 = .ok (.imul, 1) := by decide +kernel
theorem dX8_takeWith_83 : decode cX8_takeWith 83 = .ok (.iload 5, 2) := by decide +kernel
theorem dX8_takeWith_85 : decode cX8_takeWith 85 = .ok (.iadd, 1) := by decide +kernel
theorem dX8_takeWith_86 : decode cX8_takeWith 86 = .ok (.iaload, 1) := by decide +kernel
theorem dX8_takeWith_87 : decode cX8_takeWith 87 = .ok (.iastore, 1) := by decide +kernel
theorem dX8_takeWith_88 : decode cX8_takeWith 88 = .ok (.iinc 5 1, 3) := by decide +kernel
theorem dX8_takeWith_91 : decode cX8_takeWith 91 = .ok (.iinc 6 1, 3) := by decide +kernel
theorem dX8_takeWith_94 : decode cX8_takeWith 94 = .ok (.goto (-73), 3) := by decide +kernel
theorem dX8_takeWith_97 : decode cX8_takeWith 97 = .ok (.return_, 1) := by decide +kernel
theorem dX8_lay_0 : decode cX8_lay 0 = .ok (.aload_n 0, 1) := by decide +kernel
theorem dX8_lay_1 : decode cX8_lay 1 = .ok (.getfield 43, 3) := by decide +kernel
theorem dX8_lay_4 : decode cX8_lay 4 = .ok (.bipush 96, 2) := by decide +kernel
theorem dX8_lay_6 : decode cX8_lay 6 = .ok (.iload_n 1, 1) := by decide +kernel
theorem dX8_lay_7 : decode cX8_lay 7 = .ok (.iadd, 1) := by decide +kernel
theorem dX8_lay_8 : decode cX8_lay 8 = .ok (.aload_n 0, 1) := by decide +kernel
theorem dX8_lay_9 : decode cX8_lay 9 = .ok (.getfield 82, 3) := by decide +kernel
theorem dX8_lay_12 : decode cX8_lay 12 = .ok (.iastore, 1) := by decide +kernel
theorem dX8_lay_13 : decode cX8_lay 13 = .ok (.iconst 0, 1) := by decide +kernel
theorem dX8_lay_14 : decode cX8_lay 14 = .ok (.istore_n 2, 1) := by decide +kernel
theorem dX8_lay_15 : decode cX8_lay 15 = .ok (.iload_n 2, 1) := by decide +kernel
theorem dX8_lay_16 : decode cX8_lay 16 = .ok (.aload_n 0, 1) := by decide +kernel
theorem dX8_lay_17 : decode cX8_lay 17 = .ok (.getfield 82, 3) := by decide +kernel
theorem dX8_lay_20 : decode cX8_lay 20 = .ok (.if_icmp .ge 26, 3) := by decide +kernel
theorem dX8_lay_23 : decode cX8_lay 23 = .ok (.aload_n 0, 1) := by decide +kernel
theorem dX8_lay_24 : decode cX8_lay 24 = .ok (.getfield 43, 3) := by decide +kernel
theorem dX8_lay_27 : decode cX8_lay 27 = .ok (.bipush 24, 2) := by decide +kernel
theorem dX8_lay_29 : decode cX8_lay 29 = .ok (.iload_n 1, 1) := by decide +kernel
theorem dX8_lay_30 : decode cX8_lay 30 = .ok (.imul, 1) := by decide +kernel
theorem dX8_lay_31 : decode cX8_lay 31 = .ok (.iload_n 2, 1) := by decide +kernel
theorem dX8_lay_32 : decode cX8_lay 32 = .ok (.iadd, 1) := by decide +kernel
theorem dX8_lay_33 : decode cX8_lay 33 = .ok (.aload_n 0, 1) := by decide +kernel
theorem dX8_lay_34 : decode cX8_lay 34 = .ok (.getfield 46, 3) := by decide +kernel
theorem dX8_lay_37 : decode cX8_lay 37 = .ok (.iload_n 2, 1) := by decide +kernel
theorem dX8_lay_38 : decode cX8_lay 38 = .ok (.iaload, 1) := by decide +kernel
theorem dX8_lay_39 : decode cX8_lay 39 = .ok (.iastore, 1) := by decide +kernel
theorem dX8_lay_40 : decode cX8_lay 40 = .ok (.iinc 2 1, 3) := by decide +kernel
theorem dX8_lay_43 : decode cX8_lay 43 = .ok (.goto (-28), 3) := by decide +kernel
theorem dX8_lay_46 : decode cX8_lay 46 = .ok (.return_, 1) := by decide +kernel
theorem dX8_findBest_0 : decode cX8_findBest 0 = .ok (.iconst 0, 1) := by decide +kernel
theorem dX8_findBest_1 : decode cX8_findBest 1 = .ok (.istore_n 3, 1) := by decide +kernel
theorem dX8_findBest_2 : decode cX8_findBest 2 = .ok (.aload_n 0, 1) := by decide +kernel
theorem dX8_findBest_3 : decode cX8_findBest 3 = .ok (.iload_n 2, 1) := by decide +kernel
theorem dX8_findBest_4 : decode cX8_findBest 4 = .ok (.invokevirtual 107, 3) := by decide +kernel
theorem dX8_findBest_7 : decode cX8_findBest 7 = .ok (.aload_n 0, 1) := by decide +kernel
theorem dX8_findBest_8 : decode cX8_findBest 8 = .ok (.iload_n 2, 1) := by decide +kernel
theorem dX8_findBest_9 : decode cX8_findBest 9 = .ok (.invokevirtual 126, 3) := by decide +kernel
theorem dX8_findBest_12 : decode cX8_findBest 12 = .ok (.istore 4, 2) := by decide +kernel
theorem dX8_findBest_14 : decode cX8_findBest 14 = .ok (.aload_n 0, 1) := by decide +kernel
theorem dX8_findBest_15 : decode cX8_findBest 15 = .ok (.getfield 82, 3) := by decide +kernel
theorem dX8_findBest_18 : decode cX8_findBest 18 = .ok (.istore 5, 2) := by decide +kernel
theorem dX8_findBest_20 : decode cX8_findBest 20 = .ok (.iconst 0, 1) := by decide +kernel
theorem dX8_findBest_21 : decode cX8_findBest 21 = .ok (.istore 6, 2) := by decide +kernel
theorem dX8_findBest_23 : decode cX8_findBest 23 = .ok (.iload 6, 2) := by decide +kernel
theorem dX8_findBest_25 : decode cX8_findBest 25 = .ok (.iload 5, 2) := by decide +kernel
theorem dX8_findBest_27 : decode cX8_findBest 27 = .ok (.if_icmp .gt 91, 3) := by decide +kernel
theorem dX8_findBest_30 : decode cX8_findBest 30 = .ok (.iload 6, 2) := by decide +kernel
theorem dX8_findBest_32 : decode cX8_findBest 32 = .ok (.iconst 1, 1) := by decide +kernel
theorem dX8_findBest_33 : decode cX8_findBest 33 = .ok (.iadd, 1) := by decide +kernel
theorem dX8_findBest_34 : decode cX8_findBest 34 = .ok (.istore 7, 2) := by decide +kernel
theorem dX8_findBest_36 : decode cX8_findBest 36 = .ok (.iload 7, 2) := by decide +kernel
theorem dX8_findBest_38 : decode cX8_findBest 38 = .ok (.iload 5, 2) := by decide +kernel
theorem dX8_findBest_40 : decode cX8_findBest 40 = .ok (.iconst 1, 1) := by decide +kernel
theorem dX8_findBest_41 : decode cX8_findBest 41 = .ok (.iadd, 1) := by decide +kernel
theorem dX8_findBest_42 : decode cX8_findBest 42 = .ok (.if_icmp .gt 70, 3) := by decide +kernel
theorem dX8_findBest_45 : decode cX8_findBest 45 = .ok (.aload_n 0, 1) := by decide +kernel
theorem dX8_findBest_46 : decode cX8_findBest 46 = .ok (.iload_n 2, 1) := by decide +kernel
theorem dX8_findBest_47 : decode cX8_findBest 47 = .ok (.iload_n 1, 1) := by decide +kernel
theorem dX8_findBest_48 : decode cX8_findBest 48 = .ok (.iload 6, 2) := by decide +kernel
theorem dX8_findBest_50 : decode cX8_findBest 50 = .ok (.iload 7, 2) := by decide +kernel
theorem dX8_findBest_52 : decode cX8_findBest 52 = .ok (.invokevirtual 141, 3) := by decide +kernel
theorem dX8_findBest_55 : decode cX8_findBest 55 = .ok (.aload_n 0, 1) := by decide +kernel
theorem dX8_findBest_56 : decode cX8_findBest 56 = .ok (.iload_n 2, 1) := by decide +kernel
theorem dX8_findBest_57 : decode cX8_findBest 57 = .ok (.invokevirtual 126, 3) := by decide +kernel
theorem dX8_findBest_60 : decode cX8_findBest 60 = .ok (.iload 4, 2) := by decide +kernel
theorem dX8_findBest_62 : decode cX8_findBest 62 = .ok (.isub, 1) := by decide +kernel
theorem dX8_findBest_63 : decode cX8_findBest 63 = .ok (.istore 8, 2) := by decide +kernel
theorem dX8_findBest_65 : decode cX8_findBest 65 = .ok (.iload_n 3, 1) := by decide +kernel
theorem dX8_findBest_66 : decode cX8_findBest 66 = .ok (.ifCond .eq 12, 3) := by decide +kernel
theorem dX8_findBest_69 : decode cX8_findBest 69 = .ok (.iload 8, 2) := by decide +kernel
theorem dX8_findBest_71 : decode cX8_findBest 71 = .ok (.aload_n 0, 1) := by decide +kernel
theorem dX8_findBest_72 : decode cX8_findBest 72 = .ok (.getfield 145, 3) := by decide +kernel
theorem dX8_findBest_75 : decode cX8_findBest 75 = .ok (.if_icmp .ge 31, 3) := by decide +kernel
theorem dX8_findBest_78 : decode cX8_findBest 78 = .ok (.aload_n 0, 1) := by decide +kernel
theorem dX8_findBest_79 : decode cX8_findBest 79 = .ok (.iload_n 2, 1) := by decide +kernel
theorem dX8_findBest_80 : decode cX8_findBest 80 = .ok (.invokevirtual 111, 3) := by decide +kernel
theorem dX8_findBest_83 : decode cX8_findBest 83 = .ok (.ifCond .eq 23, 3) := by decide +kernel
theorem dX8_findBest_86 : decode cX8_findBest 86 = .ok (.iconst 1, 1) := by decide +kernel
theorem dX8_findBest_87 : decode cX8_findBest 87 = .ok (.istore_n 3, 1) := by decide +kernel
theorem dX8_findBest_88 : decode cX8_findBest 88 = .ok (.aload_n 0, 1) := by decide +kernel
theorem dX8_findBest_89 : decode cX8_findBest 89 = .ok (.iload 6, 2) := by decide +kernel
theorem dX8_findBest_91 : decode cX8_findBest 91 = .ok (.putfield 148, 3) := by decide +kernel
theorem dX8_findBest_94 : decode cX8_findBest 94 = .ok (.aload_n 0, 1) := by decide +kernel
theorem dX8_findBest_95 : decode cX8_findBest 95 = .ok (.iload 7, 2) := by decide +kernel
theorem dX8_findBest_97 : decode cX8_findBest 97 = .ok (.putfield 151, 3) := by decide +kernel
theorem dX8_findBest_100 : decode cX8_findBest 100 = .ok (.aload_n 0, 1) := by decide +kernel
theorem dX8_findBest_101 : decode cX8_findBest 101 = .ok (.iload 8, 2) := by decide +kernel
theorem dX8_findBest_103 : decode cX8_findBest 103 = .ok (.putfield 145, 3) := by decide +kernel
theorem dX8_findBest_106 : decode cX8_findBest 106 = .ok (.iinc 7 1, 3) := by decide +kernel
theorem dX8_findBest_109 : decode cX8_findBest 109 = .ok (.goto (-73), 3) := by decide +kernel
theorem dX8_findBest_112 : decode cX8_findBest 112 = .ok (.iinc 6 1, 3) := by decide +kernel
theorem dX8_findBest_115 : decode cX8_findBest 115 = .ok (.goto (-92), 3) := by decide +kernel
theorem dX8_findBest_118 : decode cX8_findBest 118 = .ok (.iload_n 3, 1) := by decide +kernel
theorem dX8_findBest_119 : decode cX8_findBest 119 = .ok (.ireturn, 1) := by decide +kernel
theorem dX8_putBest_0 : decode cX8_putBest 0 = .ok (.aload_n 0, 1) := by decide +kernel
theorem dX8_putBest_1 : decode cX8_putBest 1 = .ok (.iload_n 1, 1) := by decide +kernel
theorem dX8_putBest_2 : decode cX8_putBest 2 = .ok (.iload_n 2, 1) := by decide +kernel
theorem dX8_putBest_3 : decode cX8_putBest 3 = .ok (.invokevirtual 154, 3) := by decide +kernel
theorem dX8_putBest_6 : decode cX8_putBest 6 = .ok (.istore_n 3, 1) := by decide +kernel
theorem dX8_putBest_7 : decode cX8_putBest 7 = .ok (.iload_n 3, 1) := by decide +kernel
theorem dX8_putBest_8 : decode cX8_putBest 8 = .ok (.ifCond .eq 22, 3) := by decide +kernel
theorem dX8_putBest_11 : decode cX8_putBest 11 = .ok (.aload_n 0, 1) := by decide +kernel
theorem dX8_putBest_12 : decode cX8_putBest 12 = .ok (.iload_n 2, 1) := by decide +kernel
theorem dX8_putBest_13 : decode cX8_putBest 13 = .ok (.iload_n 1, 1) := by decide +kernel
theorem dX8_putBest_14 : decode cX8_putBest 14 = .ok (.aload_n 0, 1) := by decide +kernel
theorem dX8_putBest_15 : decode cX8_putBest 15 = .ok (.getfield 148, 3) := by decide +kernel
theorem dX8_putBest_18 : decode cX8_putBest 18 = .ok (.aload_n 0, 1) := by decide +kernel
theorem dX8_putBest_19 : decode cX8_putBest 19 = .ok (.getfield 151, 3) := by decide +kernel
theorem dX8_putBest_22 : decode cX8_putBest 22 = .ok (.invokevirtual 141, 3) := by decide +kernel
theorem dX8_putBest_25 : decode cX8_putBest 25 = .ok (.aload_n 0, 1) := by decide +kernel
theorem dX8_putBest_26 : decode cX8_putBest 26 = .ok (.iload_n 2, 1) := by decide +kernel
theorem dX8_putBest_27 : decode cX8_putBest 27 = .ok (.invokevirtual 157, 3) := by decide +kernel
theorem dX8_putBest_30 : decode cX8_putBest 30 = .ok (.iload_n 3, 1) := by decide +kernel
theorem dX8_putBest_31 : decode cX8_putBest 31 = .ok (.ireturn, 1) := by decide +kernel
theorem dX8_putAnywhere_0 : decode cX8_putAnywhere 0 = .ok (.iconst (-1), 1) := by decide +kernel
theorem dX8_putAnywhere_1 : decode cX8_putAnywhere 1 = .ok (.istore_n 3, 1) := by decide +kernel
theorem dX8_putAnywhere_2 : decode cX8_putAnywhere 2 = .ok (.iconst 0, 1) := by decide +kernel
theorem dX8_putAnywhere_3 : decode cX8_putAnywhere 3 = .ok (.istore 4, 2) := by decide +kernel
theorem dX8_putAnywhere_5 : decode cX8_putAnywhere 5 = .ok (.iconst 0, 1) := by decide +kernel
theorem dX8_putAnywhere_6 : decode cX8_putAnywhere 6 = .ok (.istore 5, 2) := by decide +kernel
theorem dX8_putAnywhere_8 : decode cX8_putAnywhere 8 = .ok (.iload 5, 2) := by decide +kernel
theorem dX8_putAnywhere_10 : decode cX8_putAnywhere 10 = .ok (.aload_n 0, 1) := by decide +kernel
theorem dX8_putAnywhere_11 : decode cX8_putAnywhere 11 = .ok (.getfield 69, 3) := by decide +kernel
theorem dX8_putAnywhere_14 : decode cX8_putAnywhere 14 = .ok (.if_icmp .ge 47, 3) := by decide +kernel
theorem dX8_putAnywhere_17 : decode cX8_putAnywhere 17 = .ok (.iload 5, 2) := by decide +kernel
theorem dX8_putAnywhere_19 : decode cX8_putAnywhere 19 = .ok (.iload_n 2, 1) := by decide +kernel
theorem dX8_putAnywhere_20 : decode cX8_putAnywhere 20 = .ok (.if_icmp .eq 35, 3) := by decide +kernel
theorem dX8_putAnywhere_23 : decode cX8_putAnywhere 23 = .ok (.aload_n 0, 1) := by decide +kernel
theorem dX8_putAnywhere_24 : decode cX8_putAnywhere 24 = .ok (.iload_n 1, 1) := by decide +kernel
theorem dX8_putAnywhere_25 : decode cX8_putAnywhere 25 = .ok (.iload 5, 2) := by decide +kernel
theorem dX8_putAnywhere_27 : decode cX8_putAnywhere 27 = .ok (.invokevirtual 154, 3) := by decide +kernel
theorem dX8_putAnywhere_30 : decode cX8_putAnywhere 30 = .ok (.ifCond .eq 25, 3) := by decide +kernel
theorem dX8_putAnywhere_33 : decode cX8_putAnywhere 33 = .ok (.iload_n 3, 1) := by decide +kernel
theorem dX8_putAnywhere_34 : decode cX8_putAnywhere 34 = .ok (.ifCond .lt 12, 3) := by decide +kernel
theorem dX8_putAnywhere_37 : decode cX8_putAnywhere 37 = .ok (.aload_n 0, 1) := by decide +kernel
theorem dX8_putAnywhere_38 : decode cX8_putAnywhere 38 = .ok (.getfield 145, 3) := by decide +kernel
theorem dX8_putAnywhere_41 : decode cX8_putAnywhere 41 = .ok (.iload 4, 2) := by decide +kernel
theorem dX8_putAnywhere_43 : decode cX8_putAnywhere 43 = .ok (.if_icmp .ge 12, 3) := by decide +kernel
theorem dX8_putAnywhere_46 : decode cX8_putAnywhere 46 = .ok (.iload 5, 2) := by decide +kernel
theorem dX8_putAnywhere_48 : decode cX8_putAnywhere 48 = .ok (.istore_n 3, 1) := by decide +kernel
theorem dX8_putAnywhere_49 : decode cX8_putAnywhere 49 = .ok (.aload_n 0, 1) := by decide +kernel
theorem dX8_putAnywhere_50 : decode cX8_putAnywhere 50 = .ok (.getfield 145, 3) := by decide +kernel
theorem dX8_putAnywhere_53 : decode cX8_putAnywhere 53 = .ok (.istore 4, 2) := by decide +kernel
theorem dX8_putAnywhere_55 : decode cX8_putAnywhere 55 = .ok (.iinc 5 1, 3) := by decide +kernel
theorem dX8_putAnywhere_58 : decode cX8_putAnywhere 58 = .ok (.goto (-50), 3) := by decide +kernel
theorem dX8_putAnywhere_61 : decode cX8_putAnywhere 61 = .ok (.iload_n 3, 1) := by decide +kernel
theorem dX8_putAnywhere_62 : decode cX8_putAnywhere 62 = .ok (.ifCond .lt 10, 3) := by decide +kernel
theorem dX8_putAnywhere_65 : decode cX8_putAnywhere 65 = .ok (.aload_n 0, 1) := by decide +kernel
theorem dX8_putAnywhere_66 : decode cX8_putAnywhere 66 = .ok (.iload_n 1, 1) := by decide +kernel
theorem dX8_putAnywhere_67 : decode cX8_putAnywhere 67 = .ok (.iload_n 3, 1) := by decide +kernel
theorem dX8_putAnywhere_68 : decode cX8_putAnywhere 68 = .ok (.invokevirtual 160, 3) := by decide +kernel
theorem dX8_putAnywhere_71 : decode cX8_putAnywhere 71 = .ok (.pop, 1) := by decide +kernel
theorem dX8_putAnywhere_72 : decode cX8_putAnywhere 72 = .ok (.iload_n 3, 1) := by decide +kernel
theorem dX8_putAnywhere_73 : decode cX8_putAnywhere 73 = .ok (.ireturn, 1) := by decide +kernel
theorem dX8_takeOut_0 : decode cX8_takeOut 0 = .ok (.aload_n 0, 1) := by decide +kernel
theorem dX8_takeOut_1 : decode cX8_takeOut 1 = .ok (.iload_n 1, 1) := by decide +kernel
theorem dX8_takeOut_2 : decode cX8_takeOut 2 = .ok (.invokevirtual 114, 3) := by decide +kernel
theorem dX8_takeOut_5 : decode cX8_takeOut 5 = .ok (.istore_n 2, 1) := by decide +kernel
theorem dX8_takeOut_6 : decode cX8_takeOut 6 = .ok (.aload_n 0, 1) := by decide +kernel
theorem dX8_takeOut_7 : decode cX8_takeOut 7 = .ok (.iload_n 2, 1) := by decide +kernel
theorem dX8_takeOut_8 : decode cX8_takeOut 8 = .ok (.invokevirtual 107, 3) := by decide +kernel
theorem dX8_takeOut_11 : decode cX8_takeOut 11 = .ok (.iconst 0, 1) := by decide +kernel
theorem dX8_takeOut_12 : decode cX8_takeOut 12 = .ok (.istore_n 3, 1) := by decide +kernel
theorem dX8_takeOut_13 : decode cX8_takeOut 13 = .ok (.iconst 0, 1) := by decide +kernel
theorem dX8_takeOut_14 : decode cX8_takeOut 14 = .ok (.istore 4, 2) := by decide +kernel
theorem dX8_takeOut_16 : decode cX8_takeOut 16 = .ok (.iload 4, 2) := by decide +kernel
theorem dX8_takeOut_18 : decode cX8_takeOut 18 = .ok (.aload_n 0, 1) := by decide +kernel
theorem dX8_takeOut_19 : decode cX8_takeOut 19 = .ok (.getfield 82, 3) := by decide +kernel
theorem dX8_takeOut_22 : decode cX8_takeOut 22 = .ok (.if_icmp .ge 43, 3) := by decide +kernel
theorem dX8_takeOut_25 : decode cX8_takeOut 25 = .ok (.aload_n 0, 1) := by decide +kernel
theorem dX8_takeOut_26 : decode cX8_takeOut 26 = .ok (.getfield 46, 3) := by decide +kernel
theorem dX8_takeOut_29 : decode cX8_takeOut 29 = .ok (.iload_n 3, 1) := by decide +kernel
theorem dX8_takeOut_30 : decode cX8_takeOut 30 = .ok (.aload_n 0, 1) := by decide +kernel
theorem dX8_takeOut_31 : decode cX8_takeOut 31 = .ok (.getfield 46, 3) := by decide +kernel
theorem dX8_takeOut_34 : decode cX8_takeOut 34 = .ok (.iload 4, 2) := by decide +kernel
theorem dX8_takeOut_36 : decode cX8_takeOut 36 = .ok (.iaload, 1) := by decide +kernel
theorem dX8_takeOut_37 : decode cX8_takeOut 37 = .ok (.iastore, 1) := by decide +kernel
theorem dX8_takeOut_38 : decode cX8_takeOut 38 = .ok (.iload_n 3, 1) := by decide +kernel
theorem dX8_takeOut_39 : decode cX8_takeOut 39 = .ok (.aload_n 0, 1) := by decide +kernel
theorem dX8_takeOut_40 : decode cX8_takeOut 40 = .ok (.getfield 46, 3) := by decide +kernel
theorem dX8_takeOut_43 : decode cX8_takeOut 43 = .ok (.iload 4, 2) := by decide +kernel
theorem dX8_takeOut_45 : decode cX8_takeOut 45 = .ok (.iaload, 1) := by decide +kernel
theorem dX8_takeOut_46 : decode cX8_takeOut 46 = .ok (.iconst 2, 1) := by decide +kernel
theorem dX8_takeOut_47 : decode cX8_takeOut 47 = .ok (.idiv, 1) := by decide +kernel
theorem dX8_takeOut_48 : decode cX8_takeOut 48 = .ok (.iload_n 1, 1) := by decide +kernel
theorem dX8_takeOut_49 : decode cX8_takeOut 49 = .ok (.if_icmp .eq 7, 3) := by decide +kernel
theorem dX8_takeOut_52 : decode cX8_takeOut 52 = .ok (.iconst 1, 1) := by decide +kernel
theorem dX8_takeOut_53 : decode cX8_takeOut 53 = .ok (.goto 4, 3) := by decide +kernel
theorem dX8_takeOut_56 : decode cX8_takeOut 56 = .ok (.iconst 0, 1) := by decide +kernel
theorem dX8_takeOut_57 : decode cX8_takeOut 57 = .ok (.iadd, 1) := by decide +kernel
theorem dX8_takeOut_58 : decode cX8_takeOut 58 = .ok (.istore_n 3, 1) := by decide +kernel
theorem dX8_takeOut_59 : decode cX8_takeOut 59 = .ok (.iinc 4 1, 3) := by decide +kernel
theorem dX8_takeOut_62 : decode cX8_takeOut 62 = .ok (.goto (-46), 3) := by decide +kernel
theorem dX8_takeOut_65 : decode cX8_takeOut 65 = .ok (.aload_n 0, 1) := by decide +kernel
theorem dX8_takeOut_66 : decode cX8_takeOut 66 = .ok (.iload_n 3, 1) := by decide +kernel
theorem dX8_takeOut_67 : decode cX8_takeOut 67 = .ok (.putfield 82, 3) := by decide +kernel
theorem dX8_takeOut_70 : decode cX8_takeOut 70 = .ok (.aload_n 0, 1) := by decide +kernel
theorem dX8_takeOut_71 : decode cX8_takeOut 71 = .ok (.iload_n 2, 1) := by decide +kernel
theorem dX8_takeOut_72 : decode cX8_takeOut 72 = .ok (.invokevirtual 157, 3) := by decide +kernel
theorem dX8_takeOut_75 : decode cX8_takeOut 75 = .ok (.return_, 1) := by decide +kernel
theorem dX8_putAside_0 : decode cX8_putAside 0 = .ok (.iconst 0, 1) := by decide +kernel
theorem dX8_putAside_1 : decode cX8_putAside 1 = .ok (.istore_n 1, 1) := by decide +kernel
theorem dX8_putAside_2 : decode cX8_putAside 2 = .ok (.iload_n 1, 1) := by decide +kernel
theorem dX8_putAside_3 : decode cX8_putAside 3 = .ok (.bipush 100, 2) := by decide +kernel
theorem dX8_putAside_5 : decode cX8_putAside 5 = .ok (.if_icmp .ge 21, 3) := by decide +kernel
theorem dX8_putAside_8 : decode cX8_putAside 8 = .ok (.aload_n 0, 1) := by decide +kernel
theorem dX8_putAside_9 : decode cX8_putAside 9 = .ok (.getfield 58, 3) := by decide +kernel
theorem dX8_putAside_12 : decode cX8_putAside 12 = .ok (.iload_n 1, 1) := by decide +kernel
theorem dX8_putAside_13 : decode cX8_putAside 13 = .ok (.aload_n 0, 1) := by decide +kernel
theorem dX8_putAside_14 : decode cX8_putAside 14 = .ok (.getfield 43, 3) := by decide +kernel
theorem dX8_putAside_17 : decode cX8_putAside 17 = .ok (.iload_n 1, 1) := by decide +kernel
theorem dX8_putAside_18 : decode cX8_putAside 18 = .ok (.iaload, 1) := by decide +kernel
theorem dX8_putAside_19 : decode cX8_putAside 19 = .ok (.iastore, 1) := by decide +kernel
theorem dX8_putAside_20 : decode cX8_putAside 20 = .ok (.iinc 1 1, 3) := by decide +kernel
theorem dX8_putAside_23 : decode cX8_putAside 23 = .ok (.goto (-21), 3) := by decide +kernel
theorem dX8_putAside_26 : decode cX8_putAside 26 = .ok (.return_, 1) := by decide +kernel
theorem dX8_takeBack_0 : decode cX8_takeBack 0 = .ok (.iconst 0, 1) := by decide +kernel
theorem dX8_takeBack_1 : decode cX8_takeBack 1 = .ok (.istore_n 1, 1) := by decide +kernel
theorem dX8_takeBack_2 : decode cX8_takeBack 2 = .ok (.iload_n 1, 1) := by decide +kernel
theorem dX8_takeBack_3 : decode cX8_takeBack 3 = .ok (.bipush 100, 2) := by decide +kernel
theorem dX8_takeBack_5 : decode cX8_takeBack 5 = .ok (.if_icmp .ge 21, 3) := by decide +kernel
theorem dX8_takeBack_8 : decode cX8_takeBack 8 = .ok (.aload_n 0, 1) := by decide +kernel
theorem dX8_takeBack_9 : decode cX8_takeBack 9 = .ok (.getfield 43, 3) := by decide +kernel
theorem dX8_takeBack_12 : decode cX8_takeBack 12 = .ok (.iload_n 1, 1) := by decide +kernel
theorem dX8_takeBack_13 : decode cX8_takeBack 13 = .ok (.aload_n 0, 1) := by decide +kernel
theorem dX8_takeBack_14 : decode cX8_takeBack 14 = .ok (.getfield 58, 3) := by decide +kernel
theorem dX8_takeBack_17 : decode cX8_takeBack 17 = .ok (.iload_n 1, 1) := by decide +kernel
theorem dX8_takeBack_18 : decode cX8_takeBack 18 = .ok (.iaload, 1) := by decide +kernel
theorem dX8_takeBack_19 : decode cX8_takeBack 19 = .ok (.iastore, 1) := by decide +kernel
theorem dX8_takeBack_20 : decode cX8_takeBack 20 = .ok (.iinc 1 1, 3) := by decide +kernel
theorem dX8_takeBack_23 : decode cX8_takeBack 23 = .ok (.goto (-21), 3) := by decide +kernel
theorem dX8_takeBack_26 : decode cX8_takeBack 26 = .ok (.return_, 1) := by decide +kernel
theorem dX8_keep_0 : decode cX8_keep 0 = .ok (.aload_n 0, 1) := by decide +kernel
theorem dX8_keep_1 : decode cX8_keep 1 = .ok (.getfield 79, 3) := by decide +kernel
theorem dX8_keep_4 : decode cX8_keep 4 = .ok (.bipush 10, 2) := by decide +kernel
theorem dX8_keep_6 : decode cX8_keep 6 = .ok (.if_icmp .ne 47, 3) := by decide +kernel
theorem dX8_keep_9 : decode cX8_keep 9 = .ok (.aload_n 0, 1) := by decide +kernel
theorem dX8_keep_10 : decode cX8_keep 10 = .ok (.dup, 1) := by decide +kernel
theorem dX8_keep_11 : decode cX8_keep 11 = .ok (.getfield 79, 3) := by decide +kernel
theorem dX8_keep_14 : decode cX8_keep 14 = .ok (.iconst 1, 1) := by decide +kernel
theorem dX8_keep_15 : decode cX8_keep 15 = .ok (.isub, 1) := by decide +kernel
theorem dX8_keep_16 : decode cX8_keep 16 = .ok (.putfield 79, 3) := by decide +kernel
theorem dX8_keep_19 : decode cX8_keep 19 = .ok (.iconst 0, 1) := by decide +kernel
theorem dX8_keep_20 : decode cX8_keep 20 = .ok (.istore_n 1, 1) := by decide +kernel
theorem dX8_keep_21 : decode cX8_keep 21 = .ok (.iload_n 1, 1) := by decide +kernel
theorem dX8_keep_22 : decode cX8_keep 22 = .ok (.bipush 100, 2) := by decide +kernel
theorem dX8_keep_24 : decode cX8_keep 24 = .ok (.aload_n 0, 1) := by decide +kernel
theorem dX8_keep_25 : decode cX8_keep 25 = .ok (.getfield 79, 3) := by decide +kernel
theorem dX8_keep_28 : decode cX8_keep 28 = .ok (.imul, 1) := by decide +kernel
theorem dX8_keep_29 : decode cX8_keep 29 = .ok (.if_icmp .ge 24, 3) := by decide +kernel
theorem dX8_keep_32 : decode cX8_keep 32 = .ok (.aload_n 0, 1) := by decide +kernel
theorem dX8_keep_33 : decode cX8_keep 33 = .ok (.getfield 55, 3) := by decide +kernel
theorem dX8_keep_36 : decode cX8_keep 36 = .ok (.iload_n 1, 1) := by decide +kernel
theorem dX8_keep_37 : decode cX8_keep 37 = .ok (.aload_n 0, 1) := by decide +kernel
theorem dX8_keep_38 : decode cX8_keep 38 = .ok (.getfield 55, 3) := by decide +kernel
theorem dX8_keep_41 : decode cX8_keep 41 = .ok (.iload_n 1, 1) := by decide +kernel
theorem dX8_keep_42 : decode cX8_keep 42 = .ok (.bipush 100, 2) := by decide +kernel
theorem dX8_keep_44 : decode cX8_keep 44 = .ok (.iadd, 1) := by decide +kernel
theorem dX8_keep_45 : decode cX8_keep 45 = .ok (.iaload, 1) := by decide +kernel
theorem dX8_keep_46 : decode cX8_keep 46 = .ok (.iastore, 1) := by decide +kernel
theorem dX8_keep_47 : decode cX8_keep 47 = .ok (.iinc 1 1, 3) := by decide +kernel
theorem dX8_keep_50 : decode cX8_keep 50 = .ok (.goto (-29), 3) := by decide +kernel
theorem dX8_keep_53 : decode cX8_keep 53 = .ok (.iconst 0, 1) := by decide +kernel
theorem dX8_keep_54 : decode cX8_keep 54 = .ok (.istore_n 1, 1) := by decide +kernel
theorem dX8_keep_55 : decode cX8_keep 55 = .ok (.iload_n 1, 1) := by decide +kernel
theorem dX8_keep_56 : decode cX8_keep 56 = .ok (.bipush 100, 2) := by decide +kernel
theorem dX8_keep_58 : decode cX8_keep 58 = .ok (.if_icmp .ge 29, 3) := by decide +kernel
theorem dX8_keep_61 : decode cX8_keep 61 = .ok (.aload_n 0, 1) := by decide +kernel
theorem dX8_keep_62 : decode cX8_keep 62 = .ok (.getfield 55, 3) := by decide +kernel
theorem dX8_keep_65 : decode cX8_keep 65 = .ok (.bipush 100, 2) := by decide +kernel
theorem dX8_keep_67 : decode cX8_keep 67 = .ok (.aload_n 0, 1) := by decide +kernel
theorem dX8_keep_68 : decode cX8_keep 68 = .ok (.getfield 79, 3) := by decide +kernel
theorem dX8_keep_71 : decode cX8_keep 71 = .ok (.imul, 1) := by decide +kernel
theorem dX8_keep_72 : decode cX8_keep 72 = .ok (.iload_n 1, 1) := by decide +kernel
theorem dX8_keep_73 : decode cX8_keep 73 = .ok (.iadd, 1) := by decide +kernel
theorem dX8_keep_74 : decode cX8_keep 74 = .ok (.aload_n 0, 1) := by decide +kernel
theorem dX8_keep_75 : decode cX8_keep 75 = .ok (.getfield 58, 3) := by decide +kernel
theorem dX8_keep_78 : decode cX8_keep 78 = .ok (.iload_n 1, 1) := by decide +kernel
theorem dX8_keep_79 : decode cX8_keep 79 = .ok (.iaload, 1) := by decide +kernel
theorem dX8_keep_80 : decode cX8_keep 80 = .ok (.iastore, 1) := by decide +kernel
theorem dX8_keep_81 : decode cX8_keep 81 = .ok (.iinc 1 1, 3) := by decide +kernel
theorem dX8_keep_84 : decode cX8_keep 84 = .ok (.goto (-29), 3) := by decide +kernel
theorem dX8_keep_87 : decode cX8_keep 87 = .ok (.aload_n 0, 1) := by decide +kernel
theorem dX8_keep_88 : decode cX8_keep 88 = .ok (.dup, 1) := by decide +kernel
theorem dX8_keep_89 : decode cX8_keep 89 = .ok (.getfield 79, 3) := by decide +kernel
theorem dX8_keep_92 : decode cX8_keep 92 = .ok (.iconst 1, 1) := by decide +kernel
theorem dX8_keep_93 : decode cX8_keep 93 = .ok (.iadd, 1) := by decide +kernel
theorem dX8_keep_94 : decode cX8_keep 94 = .ok (.putfield 79, 3) := by decide +kernel
theorem dX8_keep_97 : decode cX8_keep 97 = .ok (.return_, 1) := by decide +kernel
theorem dX8_insertBarred_0 : decode cX8_insertBarred 0 = .ok (.aload_n 0, 1) := by decide +kernel
theorem dX8_insertBarred_1 : decode cX8_insertBarred 1 = .ok (.iload_n 1, 1) := by decide +kernel
theorem dX8_insertBarred_2 : decode cX8_insertBarred 2 = .ok (.invokevirtual 120, 3) := by decide +kernel
theorem dX8_insertBarred_5 : decode cX8_insertBarred 5 = .ok (.ifCond .ne 11, 3) := by decide +kernel
theorem dX8_insertBarred_8 : decode cX8_insertBarred 8 = .ok (.aload_n 0, 1) := by decide +kernel
theorem dX8_insertBarred_9 : decode cX8_insertBarred 9 = .ok (.iload_n 2, 1) := by decide +kernel
theorem dX8_insertBarred_10 : decode cX8_insertBarred 10 = .ok (.invokevirtual 132, 3) := by decide +kernel
theorem dX8_insertBarred_13 : decode cX8_insertBarred 13 = .ok (.ifCond .eq 7, 3) := by decide +kernel
theorem dX8_insertBarred_16 : decode cX8_insertBarred 16 = .ok (.sipush (-1001), 3) := by decide +kernel
theorem dX8_insertBarred_19 : decode cX8_insertBarred 19 = .ok (.ireturn, 1) := by decide +kernel
theorem dX8_insertBarred_20 : decode cX8_insertBarred 20 = .ok (.iload_n 3, 1) := by decide +kernel
theorem dX8_insertBarred_21 : decode cX8_insertBarred 21 = .ok (.iconst 0, 1) := by decide +kernel
theorem dX8_insertBarred_22 : decode cX8_insertBarred 22 = .ok (.aload_n 0, 1) := by decide +kernel
theorem dX8_insertBarred_23 : decode cX8_insertBarred 23 = .ok (.getfield 43, 3) := by decide +kernel
theorem dX8_insertBarred_26 : decode cX8_insertBarred 26 = .ok (.bipush 96, 2) := by decide +kernel
theorem dX8_insertBarred_28 : decode cX8_insertBarred 28 = .ok (.iload_n 2, 1) := by decide +kernel
theorem dX8_insertBarred_29 : decode cX8_insertBarred 29 = .ok (.iadd, 1) := by decide +kernel
theorem dX8_insertBarred_30 : decode cX8_insertBarred 30 = .ok (.iaload, 1) := by decide +kernel
theorem dX8_insertBarred_31 : decode cX8_insertBarred 31 = .ok (.invokestatic 65, 3) := by decide +kernel
theorem dX8_insertBarred_34 : decode cX8_insertBarred 34 = .ok (.ifCond .eq 25, 3) := by decide +kernel
theorem dX8_insertBarred_37 : decode cX8_insertBarred 37 = .ok (.iload 4, 2) := by decide +kernel
theorem dX8_insertBarred_39 : decode cX8_insertBarred 39 = .ok (.iload_n 3, 1) := by decide +kernel
theorem dX8_insertBarred_40 : decode cX8_insertBarred 40 = .ok (.iconst 1, 1) := by decide +kernel
theorem dX8_insertBarred_41 : decode cX8_insertBarred 41 = .ok (.iadd, 1) := by decide +kernel
theorem dX8_insertBarred_42 : decode cX8_insertBarred 42 = .ok (.aload_n 0, 1) := by decide +kernel
theorem dX8_insertBarred_43 : decode cX8_insertBarred 43 = .ok (.getfield 43, 3) := by decide +kernel
theorem dX8_insertBarred_46 : decode cX8_insertBarred 46 = .ok (.bipush 96, 2) := by decide +kernel
theorem dX8_insertBarred_48 : decode cX8_insertBarred 48 = .ok (.iload_n 2, 1) := by decide +kernel
theorem dX8_insertBarred_49 : decode cX8_insertBarred 49 = .ok (.iadd, 1) := by decide +kernel
theorem dX8_insertBarred_50 : decode cX8_insertBarred 50 = .ok (.iaload, 1) := by decide +kernel
theorem dX8_insertBarred_51 : decode cX8_insertBarred 51 = .ok (.iconst 1, 1) := by decide +kernel
theorem dX8_insertBarred_52 : decode cX8_insertBarred 52 = .ok (.iadd, 1) := by decide +kernel
theorem dX8_insertBarred_53 : decode cX8_insertBarred 53 = .ok (.invokestatic 65, 3) := by decide +kernel
theorem dX8_insertBarred_56 : decode cX8_insertBarred 56 = .ok (.ifCond .ne 7, 3) := by decide +kernel
theorem dX8_insertBarred_59 : decode cX8_insertBarred 59 = .ok (.sipush (-1002), 3) := by decide +kernel
theorem dX8_insertBarred_62 : decode cX8_insertBarred 62 = .ok (.ireturn, 1) := by decide +kernel
theorem dX8_insertBarred_63 : decode cX8_insertBarred 63 = .ok (.aload_n 0, 1) := by decide +kernel
theorem dX8_insertBarred_64 : decode cX8_insertBarred 64 = .ok (.iload_n 1, 1) := by decide +kernel
theorem dX8_insertBarred_65 : decode cX8_insertBarred 65 = .ok (.invokevirtual 114, 3) := by decide +kernel
theorem dX8_insertBarred_68 : decode cX8_insertBarred 68 = .ok (.ifCond .lt 7, 3) := by decide +kernel
theorem dX8_insertBarred_71 : decode cX8_insertBarred 71 = .ok (.sipush (-1003), 3) := by decide +kernel
theorem dX8_insertBarred_74 : decode cX8_insertBarred 74 = .ok (.ireturn, 1) := by decide +kernel
theorem dX8_insertBarred_75 : decode cX8_insertBarred 75 = .ok (.aload_n 0, 1) := by decide +kernel
theorem dX8_insertBarred_76 : decode cX8_insertBarred 76 = .ok (.iload_n 2, 1) := by decide +kernel
theorem dX8_insertBarred_77 : decode cX8_insertBarred 77 = .ok (.iload_n 1, 1) := by decide +kernel
theorem dX8_insertBarred_78 : decode cX8_insertBarred 78 = .ok (.iload_n 3, 1) := by decide +kernel
theorem dX8_insertBarred_79 : decode cX8_insertBarred 79 = .ok (.iload 4, 2) := by decide +kernel
theorem dX8_insertBarred_81 : decode cX8_insertBarred 81 = .ok (.invokevirtual 141, 3) := by decide +kernel
theorem dX8_insertBarred_84 : decode cX8_insertBarred 84 = .ok (.aload_n 0, 1) := by decide +kernel
theorem dX8_insertBarred_85 : decode cX8_insertBarred 85 = .ok (.iload_n 2, 1) := by decide +kernel
theorem dX8_insertBarred_86 : decode cX8_insertBarred 86 = .ok (.invokevirtual 111, 3) := by decide +kernel
theorem dX8_insertBarred_89 : decode cX8_insertBarred 89 = .ok (.ifCond .eq 7, 3) := by decide +kernel
theorem dX8_insertBarred_92 : decode cX8_insertBarred 92 = .ok (.iconst 0, 1) := by decide +kernel
theorem dX8_insertBarred_93 : decode cX8_insertBarred 93 = .ok (.goto 6, 3) := by decide +kernel
theorem dX8_insertBarred_96 : decode cX8_insertBarred 96 = .ok (.sipush (-1005), 3) := by decide +kernel
theorem dX8_insertBarred_99 : decode cX8_insertBarred 99 = .ok (.ireturn, 1) := by decide +kernel
theorem dX8_lengthOfRow_0 : decode cX8_lengthOfRow 0 = .ok (.aload_n 0, 1) := by decide +kernel
theorem dX8_lengthOfRow_1 : decode cX8_lengthOfRow 1 = .ok (.iload_n 1, 1) := by decide +kernel
theorem dX8_lengthOfRow_2 : decode cX8_lengthOfRow 2 = .ok (.invokevirtual 107, 3) := by decide +kernel
theorem dX8_lengthOfRow_5 : decode cX8_lengthOfRow 5 = .ok (.aload_n 0, 1) := by decide +kernel
theorem dX8_lengthOfRow_6 : decode cX8_lengthOfRow 6 = .ok (.iload_n 1, 1) := by decide +kernel
theorem dX8_lengthOfRow_7 : decode cX8_lengthOfRow 7 = .ok (.invokevirtual 126, 3) := by decide +kernel
theorem dX8_lengthOfRow_10 : decode cX8_lengthOfRow 10 = .ok (.ireturn, 1) := by decide +kernel
theorem dX8_cost_0 : decode cX8_cost 0 = .ok (.aload_n 0, 1) := by decide +kernel
theorem dX8_cost_1 : decode cX8_cost 1 = .ok (.iload_n 1, 1) := by decide +kernel
theorem dX8_cost_2 : decode cX8_cost 2 = .ok (.iload_n 2, 1) := by decide +kernel
theorem dX8_cost_3 : decode cX8_cost 3 = .ok (.iload_n 3, 1) := by decide +kernel
theorem dX8_cost_4 : decode cX8_cost 4 = .ok (.iload 4, 2) := by decide +kernel
theorem dX8_cost_6 : decode cX8_cost 6 = .ok (.invokevirtual 163, 3) := by decide +kernel
theorem dX8_cost_9 : decode cX8_cost 9 = .ok (.istore 5, 2) := by decide +kernel
theorem dX8_cost_11 : decode cX8_cost 11 = .ok (.iload 5, 2) := by decide +kernel
theorem dX8_cost_13 : decode cX8_cost 13 = .ok (.ifCond .ge 6, 3) := by decide +kernel
theorem dX8_cost_16 : decode cX8_cost 16 = .ok (.iload 5, 2) := by decide +kernel
theorem dX8_cost_18 : decode cX8_cost 18 = .ok (.ireturn, 1) := by decide +kernel
theorem dX8_cost_19 : decode cX8_cost 19 = .ok (.aload_n 0, 1) := by decide +kernel
theorem dX8_cost_20 : decode cX8_cost 20 = .ok (.iload_n 2, 1) := by decide +kernel
theorem dX8_cost_21 : decode cX8_cost 21 = .ok (.invokevirtual 126, 3) := by decide +kernel
theorem dX8_cost_24 : decode cX8_cost 24 = .ok (.istore 6, 2) := by decide +kernel
theorem dX8_cost_26 : decode cX8_cost 26 = .ok (.iload 6, 2) := by decide +kernel
theorem dX8_cost_28 : decode cX8_cost 28 = .ok (.aload_n 0, 1) := by decide +kernel
theorem dX8_cost_29 : decode cX8_cost 29 = .ok (.iload_n 2, 1) := by decide +kernel
theorem dX8_cost_30 : decode cX8_cost 30 = .ok (.invokevirtual 167, 3) := by decide +kernel
theorem dX8_cost_33 : decode cX8_cost 33 = .ok (.isub, 1) := by decide +kernel
theorem dX8_cost_34 : decode cX8_cost 34 = .ok (.ireturn, 1) := by decide +kernel
theorem dX8_insert_0 : decode cX8_insert 0 = .ok (.aload_n 0, 1) := by decide +kernel
theorem dX8_insert_1 : decode cX8_insert 1 = .ok (.iload_n 1, 1) := by decide +kernel
theorem dX8_insert_2 : decode cX8_insert 2 = .ok (.iload_n 2, 1) := by decide +kernel
theorem dX8_insert_3 : decode cX8_insert 3 = .ok (.iload_n 3, 1) := by decide +kernel
theorem dX8_insert_4 : decode cX8_insert 4 = .ok (.iload 4, 2) := by decide +kernel
theorem dX8_insert_6 : decode cX8_insert 6 = .ok (.invokevirtual 163, 3) := by decide +kernel
theorem dX8_insert_9 : decode cX8_insert 9 = .ok (.istore 5, 2) := by decide +kernel
theorem dX8_insert_11 : decode cX8_insert 11 = .ok (.iload 5, 2) := by decide +kernel
theorem dX8_insert_13 : decode cX8_insert 13 = .ok (.ifCond .ge 6, 3) := by decide +kernel
theorem dX8_insert_16 : decode cX8_insert 16 = .ok (.iload 5, 2) := by decide +kernel
theorem dX8_insert_18 : decode cX8_insert 18 = .ok (.ireturn, 1) := by decide +kernel
theorem dX8_insert_19 : decode cX8_insert 19 = .ok (.aload_n 0, 1) := by decide +kernel
theorem dX8_insert_20 : decode cX8_insert 20 = .ok (.iload_n 2, 1) := by decide +kernel
theorem dX8_insert_21 : decode cX8_insert 21 = .ok (.invokevirtual 167, 3) := by decide +kernel
theorem dX8_insert_24 : decode cX8_insert 24 = .ok (.istore 6, 2) := by decide +kernel
theorem dX8_insert_26 : decode cX8_insert 26 = .ok (.aload_n 0, 1) := by decide +kernel
theorem dX8_insert_27 : decode cX8_insert 27 = .ok (.invokevirtual 170, 3) := by decide +kernel
theorem dX8_insert_30 : decode cX8_insert 30 = .ok (.aload_n 0, 1) := by decide +kernel
theorem dX8_insert_31 : decode cX8_insert 31 = .ok (.invokevirtual 173, 3) := by decide +kernel
theorem dX8_insert_34 : decode cX8_insert 34 = .ok (.aload_n 0, 1) := by decide +kernel
theorem dX8_insert_35 : decode cX8_insert 35 = .ok (.iload_n 2, 1) := by decide +kernel
theorem dX8_insert_36 : decode cX8_insert 36 = .ok (.iload_n 1, 1) := by decide +kernel
theorem dX8_insert_37 : decode cX8_insert 37 = .ok (.iload_n 3, 1) := by decide +kernel
theorem dX8_insert_38 : decode cX8_insert 38 = .ok (.iload 4, 2) := by decide +kernel
theorem dX8_insert_40 : decode cX8_insert 40 = .ok (.invokevirtual 141, 3) := by decide +kernel
theorem dX8_insert_43 : decode cX8_insert 43 = .ok (.aload_n 0, 1) := by decide +kernel
theorem dX8_insert_44 : decode cX8_insert 44 = .ok (.iload_n 2, 1) := by decide +kernel
theorem dX8_insert_45 : decode cX8_insert 45 = .ok (.invokevirtual 157, 3) := by decide +kernel
theorem dX8_insert_48 : decode cX8_insert 48 = .ok (.aload_n 0, 1) := by decide +kernel
theorem dX8_insert_49 : decode cX8_insert 49 = .ok (.iload_n 2, 1) := by decide +kernel
theorem dX8_insert_50 : decode cX8_insert 50 = .ok (.invokevirtual 126, 3) := by decide +kernel
theorem dX8_insert_53 : decode cX8_insert 53 = .ok (.iload 6, 2) := by decide +kernel
theorem dX8_insert_55 : decode cX8_insert 55 = .ok (.isub, 1) := by decide +kernel
theorem dX8_insert_56 : decode cX8_insert 56 = .ok (.ireturn, 1) := by decide +kernel
theorem dX8_openBarred_0 : decode cX8_openBarred 0 = .ok (.aload_n 0, 1) := by decide +kernel
theorem dX8_openBarred_1 : decode cX8_openBarred 1 = .ok (.iload_n 1, 1) := by decide +kernel
theorem dX8_openBarred_2 : decode cX8_openBarred 2 = .ok (.invokevirtual 120, 3) := by decide +kernel
theorem dX8_openBarred_5 : decode cX8_openBarred 5 = .ok (.ifCond .eq 9, 3) := by decide +kernel
theorem dX8_openBarred_8 : decode cX8_openBarred 8 = .ok (.sipush (-1001), 3) := by decide +kernel
theorem dX8_openBarred_11 : decode cX8_openBarred 11 = .ok (.goto 18, 3) := by decide +kernel
theorem dX8_openBarred_14 : decode cX8_openBarred 14 = .ok (.aload_n 0, 1) := by decide +kernel
theorem dX8_openBarred_15 : decode cX8_openBarred 15 = .ok (.iload_n 1, 1) := by decide +kernel
theorem dX8_openBarred_16 : decode cX8_openBarred 16 = .ok (.invokevirtual 114, 3) := by decide +kernel
theorem dX8_openBarred_19 : decode cX8_openBarred 19 = .ok (.ifCond .lt 9, 3) := by decide +kernel
theorem dX8_openBarred_22 : decode cX8_openBarred 22 = .ok (.sipush (-1003), 3) := by decide +kernel
theorem dX8_openBarred_25 : decode cX8_openBarred 25 = .ok (.goto 4, 3) := by decide +kernel
theorem dX8_openBarred_28 : decode cX8_openBarred 28 = .ok (.iconst 0, 1) := by decide +kernel
theorem dX8_openBarred_29 : decode cX8_openBarred 29 = .ok (.ireturn, 1) := by decide +kernel
theorem dX8_best_0 : decode cX8_best 0 = .ok (.aload_n 0, 1) := by decide +kernel
theorem dX8_best_1 : decode cX8_best 1 = .ok (.iload_n 1, 1) := by decide +kernel
theorem dX8_best_2 : decode cX8_best 2 = .ok (.invokevirtual 120, 3) := by decide +kernel
theorem dX8_best_5 : decode cX8_best 5 = .ok (.ifCond .ne 11, 3) := by decide +kernel
theorem dX8_best_8 : decode cX8_best 8 = .ok (.aload_n 0, 1) := by decide +kernel
theorem dX8_best_9 : decode cX8_best 9 = .ok (.iload_n 2, 1) := by decide +kernel
theorem dX8_best_10 : decode cX8_best 10 = .ok (.invokevirtual 132, 3) := by decide +kernel
theorem dX8_best_13 : decode cX8_best 13 = .ok (.ifCond .eq 7, 3) := by decide +kernel
theorem dX8_best_16 : decode cX8_best 16 = .ok (.sipush (-1001), 3) := by decide +kernel
theorem dX8_best_19 : decode cX8_best 19 = .ok (.ireturn, 1) := by decide +kernel
theorem dX8_best_20 : decode cX8_best 20 = .ok (.aload_n 0, 1) := by decide +kernel
theorem dX8_best_21 : decode cX8_best 21 = .ok (.iload_n 1, 1) := by decide +kernel
theorem dX8_best_22 : decode cX8_best 22 = .ok (.invokevirtual 114, 3) := by decide +kernel
theorem dX8_best_25 : decode cX8_best 25 = .ok (.ifCond .lt 7, 3) := by decide +kernel
theorem dX8_best_28 : decode cX8_best 28 = .ok (.sipush (-1003), 3) := by decide +kernel
theorem dX8_best_31 : decode cX8_best 31 = .ok (.ireturn, 1) := by decide +kernel
theorem dX8_best_32 : decode cX8_best 32 = .ok (.aload_n 0, 1) := by decide +kernel
theorem dX8_best_33 : decode cX8_best 33 = .ok (.iload_n 1, 1) := by decide +kernel
theorem dX8_best_34 : decode cX8_best 34 = .ok (.iload_n 2, 1) := by decide +kernel
theorem dX8_best_35 : decode cX8_best 35 = .ok (.invokevirtual 154, 3) := by decide +kernel
theorem dX8_best_38 : decode cX8_best 38 = .ok (.ifCond .eq 18, 3) := by decide +kernel
theorem dX8_best_41 : decode cX8_best 41 = .ok (.bipush 100, 2) := by decide +kernel
theorem dX8_best_43 : decode cX8_best 43 = .ok (.aload_n 0, 1) := by decide +kernel
theorem dX8_best_44 : decode cX8_best 44 = .ok (.getfield 148, 3) := by decide +kernel
theorem dX8_best_47 : decode cX8_best 47 = .ok (.imul, 1) := by decide +kernel
theorem dX8_best_48 : decode cX8_best 48 = .ok (.aload_n 0, 1) := by decide +kernel
theorem dX8_best_49 : decode cX8_best 49 = .ok (.getfield 151, 3) := by decide +kernel
theorem dX8_best_52 : decode cX8_best 52 = .ok (.iadd, 1) := by decide +kernel
theorem dX8_best_53 : decode cX8_best 53 = .ok (.goto 6, 3) := by decide +kernel
theorem dX8_best_56 : decode cX8_best 56 = .ok (.sipush (-1007), 3) := by decide +kernel
theorem dX8_best_59 : decode cX8_best 59 = .ok (.ireturn, 1) := by decide +kernel
theorem dX8_assignTo_0 : decode cX8_assignTo 0 = .ok (.aload_n 0, 1) := by decide +kernel
theorem dX8_assignTo_1 : decode cX8_assignTo 1 = .ok (.iload_n 1, 1) := by decide +kernel
theorem dX8_assignTo_2 : decode cX8_assignTo 2 = .ok (.invokevirtual 120, 3) := by decide +kernel
theorem dX8_assignTo_5 : decode cX8_assignTo 5 = .ok (.ifCond .ne 11, 3) := by decide +kernel
theorem dX8_assignTo_8 : decode cX8_assignTo 8 = .ok (.aload_n 0, 1) := by decide +kernel
theorem dX8_assignTo_9 : decode cX8_assignTo 9 = .ok (.iload_n 2, 1) := by decide +kernel
theorem dX8_assignTo_10 : decode cX8_assignTo 10 = .ok (.invokevirtual 132, 3) := by decide +kernel
theorem dX8_assignTo_13 : decode cX8_assignTo 13 = .ok (.ifCond .eq 7, 3) := by decide +kernel
theorem dX8_assignTo_16 : decode cX8_assignTo 16 = .ok (.sipush (-1001), 3) := by decide +kernel
theorem dX8_assignTo_19 : decode cX8_assignTo 19 = .ok (.ireturn, 1) := by decide +kernel
theorem dX8_assignTo_20 : decode cX8_assignTo 20 = .ok (.aload_n 0, 1) := by decide +kernel
theorem dX8_assignTo_21 : decode cX8_assignTo 21 = .ok (.iload_n 1, 1) := by decide +kernel
theorem dX8_assignTo_22 : decode cX8_assignTo 22 = .ok (.invokevirtual 114, 3) := by decide +kernel
theorem dX8_assignTo_25 : decode cX8_assignTo 25 = .ok (.ifCond .lt 7, 3) := by decide +kernel
theorem dX8_assignTo_28 : decode cX8_assignTo 28 = .ok (.sipush (-1003), 3) := by decide +kernel
theorem dX8_assignTo_31 : decode cX8_assignTo 31 = .ok (.ireturn, 1) := by decide +kernel
theorem dX8_assignTo_32 : decode cX8_assignTo 32 = .ok (.aload_n 0, 1) := by decide +kernel
theorem dX8_assignTo_33 : decode cX8_assignTo 33 = .ok (.invokevirtual 170, 3) := by decide +kernel
theorem dX8_assignTo_36 : decode cX8_assignTo 36 = .ok (.aload_n 0, 1) := by decide +kernel
theorem dX8_assignTo_37 : decode cX8_assignTo 37 = .ok (.iload_n 1, 1) := by decide +kernel
theorem dX8_assignTo_38 : decode cX8_assignTo 38 = .ok (.iload_n 2, 1) := by decide +kernel
theorem dX8_assignTo_39 : decode cX8_assignTo 39 = .ok (.invokevirtual 160, 3) := by decide +kernel
theorem dX8_assignTo_42 : decode cX8_assignTo 42 = .ok (.ifCond .ne 7, 3) := by decide +kernel
theorem dX8_assignTo_45 : decode cX8_assignTo 45 = .ok (.sipush (-1005), 3) := by decide +kernel
theorem dX8_assignTo_48 : decode cX8_assignTo 48 = .ok (.ireturn, 1) := by decide +kernel
theorem dX8_assignTo_49 : decode cX8_assignTo 49 = .ok (.aload_n 0, 1) := by decide +kernel
theorem dX8_assignTo_50 : decode cX8_assignTo 50 = .ok (.invokevirtual 173, 3) := by decide +kernel
theorem dX8_assignTo_53 : decode cX8_assignTo 53 = .ok (.aload_n 0, 1) := by decide +kernel
theorem dX8_assignTo_54 : decode cX8_assignTo 54 = .ok (.getfield 145, 3) := by decide +kernel
theorem dX8_assignTo_57 : decode cX8_assignTo 57 = .ok (.ireturn, 1) := by decide +kernel
theorem dX8_assign_0 : decode cX8_assign 0 = .ok (.aload_n 0, 1) := by decide +kernel
theorem dX8_assign_1 : decode cX8_assign 1 = .ok (.iload_n 1, 1) := by decide +kernel
theorem dX8_assign_2 : decode cX8_assign 2 = .ok (.invokevirtual 176, 3) := by decide +kernel
theorem dX8_assign_5 : decode cX8_assign 5 = .ok (.istore_n 2, 1) := by decide +kernel
theorem dX8_assign_6 : decode cX8_assign 6 = .ok (.iload_n 2, 1) := by decide +kernel
theorem dX8_assign_7 : decode cX8_assign 7 = .ok (.ifCond .ge 5, 3) := by decide +kernel
theorem dX8_assign_10 : decode cX8_assign 10 = .ok (.iload_n 2, 1) := by decide +kernel
theorem dX8_assign_11 : decode cX8_assign 11 = .ok (.ireturn, 1) := by decide +kernel
theorem dX8_assign_12 : decode cX8_assign 12 = .ok (.aload_n 0, 1) := by decide +kernel
theorem dX8_assign_13 : decode cX8_assign 13 = .ok (.invokevirtual 170, 3) := by decide +kernel
theorem dX8_assign_16 : decode cX8_assign 16 = .ok (.aload_n 0, 1) := by decide +kernel
theorem dX8_assign_17 : decode cX8_assign 17 = .ok (.iload_n 1, 1) := by decide +kernel
theorem dX8_assign_18 : decode cX8_assign 18 = .ok (.iconst (-1), 1) := by decide +kernel
theorem dX8_assign_19 : decode cX8_assign 19 = .ok (.invokevirtual 179, 3) := by decide +kernel
theorem dX8_assign_22 : decode cX8_assign 22 = .ok (.istore_n 3, 1) := by decide +kernel
theorem dX8_assign_23 : decode cX8_assign 23 = .ok (.iload_n 3, 1) := by decide +kernel
theorem dX8_assign_24 : decode cX8_assign 24 = .ok (.ifCond .ge 7, 3) := by decide +kernel
theorem dX8_assign_27 : decode cX8_assign 27 = .ok (.sipush (-1005), 3) := by decide +kernel
theorem dX8_assign_30 : decode cX8_assign 30 = .ok (.ireturn, 1) := by decide +kernel
theorem dX8_assign_31 : decode cX8_assign 31 = .ok (.aload_n 0, 1) := by decide +kernel
theorem dX8_assign_32 : decode cX8_assign 32 = .ok (.invokevirtual 173, 3) := by decide +kernel
theorem dX8_assign_35 : decode cX8_assign 35 = .ok (.iload_n 3, 1) := by decide +kernel
theorem dX8_assign_36 : decode cX8_assign 36 = .ok (.ireturn, 1) := by decide +kernel
theorem dX8_remove_0 : decode cX8_remove 0 = .ok (.aload_n 0, 1) := by decide +kernel
theorem dX8_remove_1 : decode cX8_remove 1 = .ok (.iload_n 1, 1) := by decide +kernel
theorem dX8_remove_2 : decode cX8_remove 2 = .ok (.invokevirtual 120, 3) := by decide +kernel
theorem dX8_remove_5 : decode cX8_remove 5 = .ok (.ifCond .eq 7, 3) := by decide +kernel
theorem dX8_remove_8 : decode cX8_remove 8 = .ok (.sipush (-1001), 3) := by decide +kernel
theorem dX8_remove_11 : decode cX8_remove 11 = .ok (.ireturn, 1) := by decide +kernel
theorem dX8_remove_12 : decode cX8_remove 12 = .ok (.aload_n 0, 1) := by decide +kernel
theorem dX8_remove_13 : decode cX8_remove 13 = .ok (.iload_n 1, 1) := by decide +kernel
theorem dX8_remove_14 : decode cX8_remove 14 = .ok (.invokevirtual 114, 3) := by decide +kernel
theorem dX8_remove_17 : decode cX8_remove 17 = .ok (.istore_n 2, 1) := by decide +kernel
theorem dX8_remove_18 : decode cX8_remove 18 = .ok (.iload_n 2, 1) := by decide +kernel
theorem dX8_remove_19 : decode cX8_remove 19 = .ok (.ifCond .ge 7, 3) := by decide +kernel
theorem dX8_remove_22 : decode cX8_remove 22 = .ok (.sipush (-1004), 3) := by decide +kernel
theorem dX8_remove_25 : decode cX8_remove 25 = .ok (.ireturn, 1) := by decide +kernel
theorem dX8_remove_26 : decode cX8_remove 26 = .ok (.aload_n 0, 1) := by decide +kernel
theorem dX8_remove_27 : decode cX8_remove 27 = .ok (.iload_n 2, 1) := by decide +kernel
theorem dX8_remove_28 : decode cX8_remove 28 = .ok (.invokevirtual 167, 3) := by decide +kernel
theorem dX8_remove_31 : decode cX8_remove 31 = .ok (.istore_n 3, 1) := by decide +kernel
theorem dX8_remove_32 : decode cX8_remove 32 = .ok (.aload_n 0, 1) := by decide +kernel
theorem dX8_remove_33 : decode cX8_remove 33 = .ok (.invokevirtual 170, 3) := by decide +kernel
theorem dX8_remove_36 : decode cX8_remove 36 = .ok (.aload_n 0, 1) := by decide +kernel
theorem dX8_remove_37 : decode cX8_remove 37 = .ok (.invokevirtual 173, 3) := by decide +kernel
theorem dX8_remove_40 : decode cX8_remove 40 = .ok (.aload_n 0, 1) := by decide +kernel
theorem dX8_remove_41 : decode cX8_remove 41 = .ok (.iload_n 1, 1) := by decide +kernel
theorem dX8_remove_42 : decode cX8_remove 42 = .ok (.invokevirtual 182, 3) := by decide +kernel
theorem dX8_remove_45 : decode cX8_remove 45 = .ok (.iload_n 3, 1) := by decide +kernel
theorem dX8_remove_46 : decode cX8_remove 46 = .ok (.aload_n 0, 1) := by decide +kernel
theorem dX8_remove_47 : decode cX8_remove 47 = .ok (.iload_n 2, 1) := by decide +kernel
theorem dX8_remove_48 : decode cX8_remove 48 = .ok (.invokevirtual 167, 3) := by decide +kernel
theorem dX8_remove_51 : decode cX8_remove 51 = .ok (.isub, 1) := by decide +kernel
theorem dX8_remove_52 : decode cX8_remove 52 = .ok (.ireturn, 1) := by decide +kernel
theorem dX8_isShort_0 : decode cX8_isShort 0 = .ok (.aload_n 0, 1) := by decide +kernel
theorem dX8_isShort_1 : decode cX8_isShort 1 = .ok (.iload_n 2, 1) := by decide +kernel
theorem dX8_isShort_2 : decode cX8_isShort 2 = .ok (.invokevirtual 114, 3) := by decide +kernel
theorem dX8_isShort_5 : decode cX8_isShort 5 = .ok (.istore_n 3, 1) := by decide +kernel
theorem dX8_isShort_6 : decode cX8_isShort 6 = .ok (.iload_n 3, 1) := by decide +kernel
theorem dX8_isShort_7 : decode cX8_isShort 7 = .ok (.ifCond .ge 5, 3) := by decide +kernel
theorem dX8_isShort_10 : decode cX8_isShort 10 = .ok (.iconst 0, 1) := by decide +kernel
theorem dX8_isShort_11 : decode cX8_isShort 11 = .ok (.ireturn, 1) := by decide +kernel
theorem dX8_isShort_12 : decode cX8_isShort 12 = .ok (.aload_n 0, 1) := by decide +kernel
theorem dX8_isShort_13 : decode cX8_isShort 13 = .ok (.iload_n 2, 1) := by decide +kernel
theorem dX8_isShort_14 : decode cX8_isShort 14 = .ok (.invokevirtual 182, 3) := by decide +kernel
theorem dX8_isShort_17 : decode cX8_isShort 17 = .ok (.aload_n 0, 1) := by decide +kernel
theorem dX8_isShort_18 : decode cX8_isShort 18 = .ok (.iload_n 1, 1) := by decide +kernel
theorem dX8_isShort_19 : decode cX8_isShort 19 = .ok (.iload_n 3, 1) := by decide +kernel
theorem dX8_isShort_20 : decode cX8_isShort 20 = .ok (.invokevirtual 160, 3) := by decide +kernel
theorem dX8_isShort_23 : decode cX8_isShort 23 = .ok (.ifCond .eq 16, 3) := by decide +kernel
theorem dX8_isShort_26 : decode cX8_isShort 26 = .ok (.aload_n 0, 1) := by decide +kernel
theorem dX8_isShort_27 : decode cX8_isShort 27 = .ok (.iload_n 2, 1) := by decide +kernel
theorem dX8_isShort_28 : decode cX8_isShort 28 = .ok (.iload_n 3, 1) := by decide +kernel
theorem dX8_isShort_29 : decode cX8_isShort 29 = .ok (.invokevirtual 179, 3) := by decide +kernel
theorem dX8_isShort_32 : decode cX8_isShort 32 = .ok (.ifCond .lt 7, 3) := by decide +kernel
theorem dX8_isShort_35 : decode cX8_isShort 35 = .ok (.iconst 1, 1) := by decide +kernel
theorem dX8_isShort_36 : decode cX8_isShort 36 = .ok (.goto 4, 3) := by decide +kernel
theorem dX8_isShort_39 : decode cX8_isShort 39 = .ok (.iconst 0, 1) := by decide +kernel
theorem dX8_isShort_40 : decode cX8_isShort 40 = .ok (.ireturn, 1) := by decide +kernel
theorem dX8_isLong_0 : decode cX8_isLong 0 = .ok (.aload_n 0, 1) := by decide +kernel
theorem dX8_isLong_1 : decode cX8_isLong 1 = .ok (.iload_n 2, 1) := by decide +kernel
theorem dX8_isLong_2 : decode cX8_isLong 2 = .ok (.invokevirtual 114, 3) := by decide +kernel
theorem dX8_isLong_5 : decode cX8_isLong 5 = .ok (.istore 4, 2) := by decide +kernel
theorem dX8_isLong_7 : decode cX8_isLong 7 = .ok (.aload_n 0, 1) := by decide +kernel
theorem dX8_isLong_8 : decode cX8_isLong 8 = .ok (.iload_n 3, 1) := by decide +kernel
theorem dX8_isLong_9 : decode cX8_isLong 9 = .ok (.invokevirtual 114, 3) := by decide +kernel
theorem dX8_isLong_12 : decode cX8_isLong 12 = .ok (.istore 5, 2) := by decide +kernel
theorem dX8_isLong_14 : decode cX8_isLong 14 = .ok (.iload 4, 2) := by decide +kernel
theorem dX8_isLong_16 : decode cX8_isLong 16 = .ok (.ifCond .lt 15, 3) := by decide +kernel
theorem dX8_isLong_19 : decode cX8_isLong 19 = .ok (.iload 5, 2) := by decide +kernel
theorem dX8_isLong_21 : decode cX8_isLong 21 = .ok (.ifCond .lt 10, 3) := by decide +kernel
theorem dX8_isLong_24 : decode cX8_isLong 24 = .ok (.iload 4, 2) := by decide +kernel
theorem dX8_isLong_26 : decode cX8_isLong 26 = .ok (.iload 5, 2) := by decide +kernel
theorem dX8_isLong_28 : decode cX8_isLong 28 = .ok (.if_icmp .ne 5, 3) := by decide +kernel
theorem dX8_isLong_31 : decode cX8_isLong 31 = .ok (.iconst 0, 1) := by decide +kernel
theorem dX8_isLong_32 : decode cX8_isLong 32 = .ok (.ireturn, 1) := by decide +kernel
theorem dX8_isLong_33 : decode cX8_isLong 33 = .ok (.aload_n 0, 1) := by decide +kernel
theorem dX8_isLong_34 : decode cX8_isLong 34 = .ok (.iload_n 2, 1) := by decide +kernel
theorem dX8_isLong_35 : decode cX8_isLong 35 = .ok (.invokevirtual 182, 3) := by decide +kernel
theorem dX8_isLong_38 : decode cX8_isLong 38 = .ok (.aload_n 0, 1) := by decide +kernel
theorem dX8_isLong_39 : decode cX8_isLong 39 = .ok (.iload_n 1, 1) := by decide +kernel
theorem dX8_isLong_40 : decode cX8_isLong 40 = .ok (.iload 4, 2) := by decide +kernel
theorem dX8_isLong_42 : decode cX8_isLong 42 = .ok (.invokevirtual 160, 3) := by decide +kernel
theorem dX8_isLong_45 : decode cX8_isLong 45 = .ok (.ifCond .ne 5, 3) := by decide +kernel
theorem dX8_isLong_48 : decode cX8_isLong 48 = .ok (.iconst 0, 1) := by decide +kernel
theorem dX8_isLong_49 : decode cX8_isLong 49 = .ok (.ireturn, 1) := by decide +kernel
theorem dX8_isLong_50 : decode cX8_isLong 50 = .ok (.aload_n 0, 1) := by decide +kernel
theorem dX8_isLong_51 : decode cX8_isLong 51 = .ok (.iload_n 3, 1) := by decide +kernel
theorem dX8_isLong_52 : decode cX8_isLong 52 = .ok (.invokevirtual 182, 3) := by decide +kernel
theorem dX8_isLong_55 : decode cX8_isLong 55 = .ok (.aload_n 0, 1) := by decide +kernel
theorem dX8_isLong_56 : decode cX8_isLong 56 = .ok (.iload_n 2, 1) := by decide +kernel
theorem dX8_isLong_57 : decode cX8_isLong 57 = .ok (.iload 5, 2) := by decide +kernel
theorem dX8_isLong_59 : decode cX8_isLong 59 = .ok (.invokevirtual 160, 3) := by decide +kernel
theorem dX8_isLong_62 : decode cX8_isLong 62 = .ok (.ifCond .eq 17, 3) := by decide +kernel
theorem dX8_isLong_65 : decode cX8_isLong 65 = .ok (.aload_n 0, 1) := by decide +kernel
theorem dX8_isLong_66 : decode cX8_isLong 66 = .ok (.iload_n 3, 1) := by decide +kernel
theorem dX8_isLong_67 : decode cX8_isLong 67 = .ok (.iload 5, 2) := by decide +kernel
theorem dX8_isLong_69 : decode cX8_isLong 69 = .ok (.invokevirtual 179, 3) := by decide +kernel
theorem dX8_isLong_72 : decode cX8_isLong 72 = .ok (.ifCond .lt 7, 3) := by decide +kernel
theorem dX8_isLong_75 : decode cX8_isLong 75 = .ok (.iconst 1, 1) := by decide +kernel
theorem dX8_isLong_76 : decode cX8_isLong 76 = .ok (.goto 4, 3) := by decide +kernel
theorem dX8_isLong_79 : decode cX8_isLong 79 = .ok (.iconst 0, 1) := by decide +kernel
theorem dX8_isLong_80 : decode cX8_isLong 80 = .ok (.ireturn, 1) := by decide +kernel
theorem dX8_findChain_0 : decode cX8_findChain 0 = .ok (.aload_n 0, 1) := by decide +kernel
theorem dX8_findChain_1 : decode cX8_findChain 1 = .ok (.invokevirtual 170, 3) := by decide +kernel
theorem dX8_findChain_4 : decode cX8_findChain 4 = .ok (.iconst 0, 1) := by decide +kernel
theorem dX8_findChain_5 : decode cX8_findChain 5 = .ok (.istore_n 2, 1) := by decide +kernel
theorem dX8_findChain_6 : decode cX8_findChain 6 = .ok (.iconst 0, 1) := by decide +kernel
theorem dX8_findChain_7 : decode cX8_findChain 7 = .ok (.istore_n 3, 1) := by decide +kernel
theorem dX8_findChain_8 : decode cX8_findChain 8 = .ok (.iload_n 3, 1) := by decide +kernel
theorem dX8_findChain_9 : decode cX8_findChain 9 = .ok (.aload_n 0, 1) := by decide +kernel
theorem dX8_findChain_10 : decode cX8_findChain 10 = .ok (.getfield 72, 3) := by decide +kernel
theorem dX8_findChain_13 : decode cX8_findChain 13 = .ok (.if_icmp .ge 58, 3) := by decide +kernel
theorem dX8_findChain_16 : decode cX8_findChain 16 = .ok (.aload_n 0, 1) := by decide +kernel
theorem dX8_findChain_17 : decode cX8_findChain 17 = .ok (.iload_n 1, 1) := by decide +kernel
theorem dX8_findChain_18 : decode cX8_findChain 18 = .ok (.iload_n 3, 1) := by decide +kernel
theorem dX8_findChain_19 : decode cX8_findChain 19 = .ok (.invokevirtual 185, 3) := by decide +kernel
theorem dX8_findChain_22 : decode cX8_findChain 22 = .ok (.ifCond .eq 39, 3) := by decide +kernel
theorem dX8_findChain_25 : decode cX8_findChain 25 = .ok (.iload_n 2, 1) := by decide +kernel
theorem dX8_findChain_26 : decode cX8_findChain 26 = .ok (.ifCond .eq 14, 3) := by decide +kernel
theorem dX8_findChain_29 : decode cX8_findChain 29 = .ok (.aload_n 0, 1) := by decide +kernel
theorem dX8_findChain_30 : decode cX8_findChain 30 = .ok (.invokevirtual 129, 3) := by decide +kernel
theorem dX8_findChain_33 : decode cX8_findChain 33 = .ok (.aload_n 0, 1) := by decide +kernel
theorem dX8_findChain_34 : decode cX8_findChain 34 = .ok (.getfield 188, 3) := by decide +kernel
theorem dX8_findChain_37 : decode cX8_findChain 37 = .ok (.if_icmp .ge 24, 3) := by decide +kernel
theorem dX8_findChain_40 : decode cX8_findChain 40 = .ok (.iconst 1, 1) := by decide +kernel
theorem dX8_findChain_41 : decode cX8_findChain 41 = .ok (.istore_n 2, 1) := by decide +kernel
theorem dX8_findChain_42 : decode cX8_findChain 42 = .ok (.aload_n 0, 1) := by decide +kernel
theorem dX8_findChain_43 : decode cX8_findChain 43 = .ok (.iload_n 3, 1) := by decide +kernel
theorem dX8_findChain_44 : decode cX8_findChain 44 = .ok (.putfield 191, 3) := by decide +kernel
theorem dX8_findChain_47 : decode cX8_findChain 47 = .ok (.aload_n 0, 1) := by decide +kernel
theorem dX8_findChain_48 : decode cX8_findChain 48 = .ok (.bipush 99, 2) := by decide +kernel
theorem dX8_findChain_50 : decode cX8_findChain 50 = .ok (.putfield 194, 3) := by decide +kernel
theorem dX8_findChain_53 : decode cX8_findChain 53 = .ok (.aload_n 0, 1) := by decide +kernel
theorem dX8_findChain_54 : decode cX8_findChain 54 = .ok (.aload_n 0, 1) := by decide +kernel
theorem dX8_findChain_55 : decode cX8_findChain 55 = .ok (.invokevirtual 129, 3) := by decide +kernel
theorem dX8_findChain_58 : decode cX8_findChain 58 = .ok (.putfield 188, 3) := by decide +kernel
theorem dX8_findChain_61 : decode cX8_findChain 61 = .ok (.aload_n 0, 1) := by decide +kernel
theorem dX8_findChain_62 : decode cX8_findChain 62 = .ok (.invokevirtual 197, 3) := by decide +kernel
theorem dX8_findChain_65 : decode cX8_findChain 65 = .ok (.iinc 3 1, 3) := by decide +kernel
theorem dX8_findChain_68 : decode cX8_findChain 68 = .ok (.goto (-60), 3) := by decide +kernel
theorem dX8_findChain_71 : decode cX8_findChain 71 = .ok (.iload_n 2, 1) := by decide +kernel
theorem dX8_findChain_72 : decode cX8_findChain 72 = .ok (.istore_n 3, 1) := by decide +kernel
theorem dX8_findChain_73 : decode cX8_findChain 73 = .ok (.iconst 0, 1) := by decide +kernel
theorem dX8_findChain_74 : decode cX8_findChain 74 = .ok (.istore 4, 2) := by decide +kernel
theorem dX8_findChain_76 : decode cX8_findChain 76 = .ok (.iload 4, 2) := by decide +kernel
theorem dX8_findChain_78 : decode cX8_findChain 78 = .ok (.aload_n 0, 1) := by decide +kernel
theorem dX8_findChain_79 : decode cX8_findChain 79 = .ok (.getfield 72, 3) := by decide +kernel
theorem dX8_findChain_82 : decode cX8_findChain 82 = .ok (.aload_n 0, 1) := by decide +kernel
theorem dX8_findChain_83 : decode cX8_findChain 83 = .ok (.getfield 72, 3) := by decide +kernel
theorem dX8_findChain_86 : decode cX8_findChain 86 = .ok (.imul, 1) := by decide +kernel
theorem dX8_findChain_87 : decode cX8_findChain 87 = .ok (.if_icmp .ge 86, 3) := by decide +kernel
theorem dX8_findChain_90 : decode cX8_findChain 90 = .ok (.iload_n 3, 1) := by decide +kernel
theorem dX8_findChain_91 : decode cX8_findChain 91 = .ok (.ifCond .ne 82, 3) := by decide +kernel
theorem dX8_findChain_94 : decode cX8_findChain 94 = .ok (.aload_n 0, 1) := by decide +kernel
theorem dX8_findChain_95 : decode cX8_findChain 95 = .ok (.iload_n 1, 1) := by decide +kernel
theorem dX8_findChain_96 : decode cX8_findChain 96 = .ok (.iload 4, 2) := by decide +kernel
theorem dX8_findChain_98 : decode cX8_findChain 98 = .ok (.aload_n 0, 1) := by decide +kernel
theorem dX8_findChain_99 : decode cX8_findChain 99 = .ok (.getfield 72, 3) := by decide +kernel
theorem dX8_findChain_102 : decode cX8_findChain 102 = .ok (.idiv, 1) := by decide +kernel
theorem dX8_findChain_103 : decode cX8_findChain 103 = .ok (.iload 4, 2) := by decide +kernel
theorem dX8_findChain_105 : decode cX8_findChain 105 = .ok (.aload_n 0, 1) := by decide +kernel
theorem dX8_findChain_106 : decode cX8_findChain 106 = .ok (.getfield 72, 3) := by decide +kernel
theorem dX8_findChain_109 : decode cX8_findChain 109 = .ok (.irem, 1) := by decide +kernel
theorem dX8_findChain_110 : decode cX8_findChain 110 = .ok (.invokevirtual 200, 3) := by decide +kernel
theorem dX8_findChain_113 : decode cX8_findChain 113 = .ok (.ifCond .eq 50, 3) := by decide +kernel
theorem dX8_findChain_116 : decode cX8_findChain 116 = .ok (.iload_n 2, 1) := by decide +kernel
theorem dX8_findChain_117 : decode cX8_findChain 117 = .ok (.ifCond .eq 14, 3) := by decide +kernel
theorem dX8_findChain_120 : decode cX8_findChain 120 = .ok (.aload_n 0, 1) := by decide +kernel
theorem dX8_findChain_121 : decode cX8_findChain 121 = .ok (.invokevirtual 129, 3) := by decide +kernel
theorem dX8_findChain_124 : decode cX8_findChain 124 = .ok (.aload_n 0, 1) := by decide +kernel
theorem dX8_findChain_125 : decode cX8_findChain 125 = .ok (.getfield 188, 3) := by decide +kernel
theorem dX8_findChain_128 : decode cX8_findChain 128 = .ok (.if_icmp .ge 35, 3) := by decide +kernel
theorem dX8_findChain_131 : decode cX8_findChain 131 = .ok (.iconst 1, 1) := by decide +kernel
theorem dX8_findChain_132 : decode cX8_findChain 132 = .ok (.istore_n 2, 1) := by decide +kernel
theorem dX8_findChain_133 : decode cX8_findChain 133 = .ok (.aload_n 0, 1) := by decide +kernel
theorem dX8_findChain_134 : decode cX8_findChain 134 = .ok (.iload 4, 2) := by decide +kernel
theorem dX8_findChain_136 : decode cX8_findChain 136 = .ok (.aload_n 0, 1) := by decide +kernel
theorem dX8_findChain_137 : decode cX8_findChain 137 = .ok (.getfield 72, 3) := by decide +kernel
theorem dX8_findChain_140 : decode cX8_findChain 140 = .ok (.idiv, 1) := by decide +kernel
theorem dX8_findChain_141 : decode cX8_findChain 141 = .ok (.putfield 191, 3) := by decide +kernel
theorem dX8_findChain_144 : decode cX8_findChain 144 = .ok (.aload_n 0, 1) := by decide +kernel
theorem dX8_findChain_145 : decode cX8_findChain 145 = .ok (.iload 4, 2) := by decide +kernel
theorem dX8_findChain_147 : decode cX8_findChain 147 = .ok (.aload_n 0, 1) := by decide +kernel
theorem dX8_findChain_148 : decode cX8_findChain 148 = .ok (.getfield 72, 3) := by decide +kernel
theorem dX8_findChain_151 : decode cX8_findChain 151 = .ok (.irem, 1) := by decide +kernel
theorem dX8_findChain_152 : decode cX8_findChain 152 = .ok (.putfield 194, 3) := by decide +kernel
theorem dX8_findChain_155 : decode cX8_findChain 155 = .ok (.aload_n 0, 1) := by decide +kernel
theorem dX8_findChain_156 : decode cX8_findChain 156 = .ok (.aload_n 0, 1) := by decide +kernel
theorem dX8_findChain_157 : decode cX8_findChain 157 = .ok (.invokevirtual 129, 3) := by decide +kernel
theorem dX8_findChain_160 : decode cX8_findChain 160 = .ok (.putfield 188, 3) := by decide +kernel
theorem dX8_findChain_163 : decode cX8_findChain 163 = .ok (.aload_n 0, 1) := by decide +kernel
theorem dX8_findChain_164 : decode cX8_findChain 164 = .ok (.invokevirtual 197, 3) := by decide +kernel
theorem dX8_findChain_167 : decode cX8_findChain 167 = .ok (.iinc 4 1, 3) := by decide +kernel
theorem dX8_findChain_170 : decode cX8_findChain 170 = .ok (.goto (-94), 3) := by decide +kernel
theorem dX8_findChain_173 : decode cX8_findChain 173 = .ok (.iload_n 2, 1) := by decide +kernel
theorem dX8_findChain_174 : decode cX8_findChain 174 = .ok (.ireturn, 1) := by decide +kernel
theorem dX8_chainCost_0 : decode cX8_chainCost 0 = .ok (.aload_n 0, 1) := by decide +kernel
theorem dX8_chainCost_1 : decode cX8_chainCost 1 = .ok (.iload_n 1, 1) := by decide +kernel
theorem dX8_chainCost_2 : decode cX8_chainCost 2 = .ok (.invokevirtual 176, 3) := by decide +kernel
theorem dX8_chainCost_5 : decode cX8_chainCost 5 = .ok (.istore_n 2, 1) := by decide +kernel
theorem dX8_chainCost_6 : decode cX8_chainCost 6 = .ok (.iload_n 2, 1) := by decide +kernel
theorem dX8_chainCost_7 : decode cX8_chainCost 7 = .ok (.ifCond .ge 5, 3) := by decide +kernel
theorem dX8_chainCost_10 : decode cX8_chainCost 10 = .ok (.iload_n 2, 1) := by decide +kernel
theorem dX8_chainCost_11 : decode cX8_chainCost 11 = .ok (.ireturn, 1) := by decide +kernel
theorem dX8_chainCost_12 : decode cX8_chainCost 12 = .ok (.aload_n 0, 1) := by decide +kernel
theorem dX8_chainCost_13 : decode cX8_chainCost 13 = .ok (.iload_n 1, 1) := by decide +kernel
theorem dX8_chainCost_14 : decode cX8_chainCost 14 = .ok (.invokevirtual 203, 3) := by decide +kernel
theorem dX8_chainCost_17 : decode cX8_chainCost 17 = .ok (.ifCond .eq 19, 3) := by decide +kernel
theorem dX8_chainCost_20 : decode cX8_chainCost 20 = .ok (.sipush 10000, 3) := by decide +kernel
theorem dX8_chainCost_23 : decode cX8_chainCost 23 = .ok (.aload_n 0, 1) := by decide +kernel
theorem dX8_chainCost_24 : decode cX8_chainCost 24 = .ok (.getfield 188, 3) := by decide +kernel
theorem dX8_chainCost_27 : decode cX8_chainCost 27 = .ok (.iadd, 1) := by decide +kernel
theorem dX8_chainCost_28 : decode cX8_chainCost 28 = .ok (.aload_n 0, 1) := by decide +kernel
theorem dX8_chainCost_29 : decode cX8_chainCost 29 = .ok (.invokevirtual 129, 3) := by decide +kernel
theorem dX8_chainCost_32 : decode cX8_chainCost 32 = .ok (.isub, 1) := by decide +kernel
theorem dX8_chainCost_33 : decode cX8_chainCost 33 = .ok (.goto 6, 3) := by decide +kernel
theorem dX8_chainCost_36 : decode cX8_chainCost 36 = .ok (.sipush (-1005), 3) := by decide +kernel
theorem dX8_chainCost_39 : decode cX8_chainCost 39 = .ok (.ireturn, 1) := by decide +kernel
theorem dX8_chain_0 : decode cX8_chain 0 = .ok (.aload_n 0, 1) := by decide +kernel
theorem dX8_chain_1 : decode cX8_chain 1 = .ok (.iload_n 1, 1) := by decide +kernel
theorem dX8_chain_2 : decode cX8_chain 2 = .ok (.invokevirtual 176, 3) := by decide +kernel
theorem dX8_chain_5 : decode cX8_chain 5 = .ok (.istore_n 2, 1) := by decide +kernel
theorem dX8_chain_6 : decode cX8_chain 6 = .ok (.iload_n 2, 1) := by decide +kernel
theorem dX8_chain_7 : decode cX8_chain 7 = .ok (.ifCond .ge 5, 3) := by decide +kernel
theorem dX8_chain_10 : decode cX8_chain 10 = .ok (.iload_n 2, 1) := by decide +kernel
theorem dX8_chain_11 : decode cX8_chain 11 = .ok (.ireturn, 1) := by decide +kernel
theorem dX8_chain_12 : decode cX8_chain 12 = .ok (.aload_n 0, 1) := by decide +kernel
theorem dX8_chain_13 : decode cX8_chain 13 = .ok (.iload_n 1, 1) := by decide +kernel
theorem dX8_chain_14 : decode cX8_chain 14 = .ok (.invokevirtual 203, 3) := by decide +kernel
theorem dX8_chain_17 : decode cX8_chain 17 = .ok (.ifCond .ne 7, 3) := by decide +kernel
theorem dX8_chain_20 : decode cX8_chain 20 = .ok (.sipush (-1005), 3) := by decide +kernel
theorem dX8_chain_23 : decode cX8_chain 23 = .ok (.ireturn, 1) := by decide +kernel
theorem dX8_chain_24 : decode cX8_chain 24 = .ok (.aload_n 0, 1) := by decide +kernel
theorem dX8_chain_25 : decode cX8_chain 25 = .ok (.invokevirtual 173, 3) := by decide +kernel
theorem dX8_chain_28 : decode cX8_chain 28 = .ok (.aload_n 0, 1) := by decide +kernel
theorem dX8_chain_29 : decode cX8_chain 29 = .ok (.getfield 194, 3) := by decide +kernel
theorem dX8_chain_32 : decode cX8_chain 32 = .ok (.bipush 99, 2) := by decide +kernel
theorem dX8_chain_34 : decode cX8_chain 34 = .ok (.if_icmp .ne 15, 3) := by decide +kernel
theorem dX8_chain_37 : decode cX8_chain 37 = .ok (.aload_n 0, 1) := by decide +kernel
theorem dX8_chain_38 : decode cX8_chain 38 = .ok (.iload_n 1, 1) := by decide +kernel
theorem dX8_chain_39 : decode cX8_chain 39 = .ok (.aload_n 0, 1) := by decide +kernel
theorem dX8_chain_40 : decode cX8_chain 40 = .ok (.getfield 191, 3) := by decide +kernel
theorem dX8_chain_43 : decode cX8_chain 43 = .ok (.invokevirtual 185, 3) := by decide +kernel
theorem dX8_chain_46 : decode cX8_chain 46 = .ok (.goto 16, 3) := by decide +kernel
theorem dX8_chain_49 : decode cX8_chain 49 = .ok (.aload_n 0, 1) := by decide +kernel
theorem dX8_chain_50 : decode cX8_chain 50 = .ok (.iload_n 1, 1) := by decide +kernel
theorem dX8_chain_51 : decode cX8_chain 51 = .ok (.aload_n 0, 1) := by decide +kernel
theorem dX8_chain_52 : decode cX8_chain 52 = .ok (.getfield 191, 3) := by decide +kernel
theorem dX8_chain_55 : decode cX8_chain 55 = .ok (.aload_n 0, 1) := by decide +kernel
theorem dX8_chain_56 : decode cX8_chain 56 = .ok (.getfield 194, 3) := by decide +kernel
theorem dX8_chain_59 : decode cX8_chain 59 = .ok (.invokevirtual 200, 3) := by decide +kernel
theorem dX8_chain_62 : decode cX8_chain 62 = .ok (.istore_n 3, 1) := by decide +kernel
theorem dX8_chain_63 : decode cX8_chain 63 = .ok (.iload_n 3, 1) := by decide +kernel
theorem dX8_chain_64 : decode cX8_chain 64 = .ok (.ifCond .eq 18, 3) := by decide +kernel
theorem dX8_chain_67 : decode cX8_chain 67 = .ok (.bipush 100, 2) := by decide +kernel
theorem dX8_chain_69 : decode cX8_chain 69 = .ok (.aload_n 0, 1) := by decide +kernel
theorem dX8_chain_70 : decode cX8_chain 70 = .ok (.getfield 191, 3) := by decide +kernel
theorem dX8_chain_73 : decode cX8_chain 73 = .ok (.imul, 1) := by decide +kernel
theorem dX8_chain_74 : decode cX8_chain 74 = .ok (.aload_n 0, 1) := by decide +kernel
theorem dX8_chain_75 : decode cX8_chain 75 = .ok (.getfield 194, 3) := by decide +kernel
theorem dX8_chain_78 : decode cX8_chain 78 = .ok (.iadd, 1) := by decide +kernel
theorem dX8_chain_79 : decode cX8_chain 79 = .ok (.goto 6, 3) := by decide +kernel
theorem dX8_chain_82 : decode cX8_chain 82 = .ok (.sipush (-1005), 3) := by decide +kernel
theorem dX8_chain_85 : decode cX8_chain 85 = .ok (.ireturn, 1) := by decide +kernel
theorem dX8_improve_0 : decode cX8_improve 0 = .ok (.aload_n 0, 1) := by decide +kernel
theorem dX8_improve_1 : decode cX8_improve 1 = .ok (.invokevirtual 170, 3) := by decide +kernel
theorem dX8_improve_4 : decode cX8_improve 4 = .ok (.aload_n 0, 1) := by decide +kernel
theorem dX8_improve_5 : decode cX8_improve 5 = .ok (.invokevirtual 129, 3) := by decide +kernel
theorem dX8_improve_8 : decode cX8_improve 8 = .ok (.istore_n 1, 1) := by decide +kernel
theorem dX8_improve_9 : decode cX8_improve 9 = .ok (.iconst (-1), 1) := by decide +kernel
theorem dX8_improve_10 : decode cX8_improve 10 = .ok (.istore_n 2, 1) := by decide +kernel
theorem dX8_improve_11 : decode cX8_improve 11 = .ok (.iload_n 1, 1) := by decide +kernel
theorem dX8_improve_12 : decode cX8_improve 12 = .ok (.istore_n 3, 1) := by decide +kernel
theorem dX8_improve_13 : decode cX8_improve 13 = .ok (.iconst 0, 1) := by decide +kernel
theorem dX8_improve_14 : decode cX8_improve 14 = .ok (.istore 4, 2) := by decide +kernel
theorem dX8_improve_16 : decode cX8_improve 16 = .ok (.iload 4, 2) := by decide +kernel
theorem dX8_improve_18 : decode cX8_improve 18 = .ok (.aload_n 0, 1) := by decide +kernel
theorem dX8_improve_19 : decode cX8_improve 19 = .ok (.getfield 72, 3) := by decide +kernel
theorem dX8_improve_22 : decode cX8_improve 22 = .ok (.if_icmp .ge 54, 3) := by decide +kernel
theorem dX8_improve_25 : decode cX8_improve 25 = .ok (.aload_n 0, 1) := by decide +kernel
theorem dX8_improve_26 : decode cX8_improve 26 = .ok (.iload 4, 2) := by decide +kernel
theorem dX8_improve_28 : decode cX8_improve 28 = .ok (.invokevirtual 114, 3) := by decide +kernel
theorem dX8_improve_31 : decode cX8_improve 31 = .ok (.ifCond .lt 39, 3) := by decide +kernel
theorem dX8_improve_34 : decode cX8_improve 34 = .ok (.aload_n 0, 1) := by decide +kernel
theorem dX8_improve_35 : decode cX8_improve 35 = .ok (.iload 4, 2) := by decide +kernel
theorem dX8_improve_37 : decode cX8_improve 37 = .ok (.invokevirtual 182, 3) := by decide +kernel
theorem dX8_improve_40 : decode cX8_improve 40 = .ok (.aload_n 0, 1) := by decide +kernel
theorem dX8_improve_41 : decode cX8_improve 41 = .ok (.iload 4, 2) := by decide +kernel
theorem dX8_improve_43 : decode cX8_improve 43 = .ok (.iconst (-1), 1) := by decide +kernel
theorem dX8_improve_44 : decode cX8_improve 44 = .ok (.invokevirtual 179, 3) := by decide +kernel
theorem dX8_improve_47 : decode cX8_improve 47 = .ok (.pop, 1) := by decide +kernel
theorem dX8_improve_48 : decode cX8_improve 48 = .ok (.aload_n 0, 1) := by decide +kernel
theorem dX8_improve_49 : decode cX8_improve 49 = .ok (.invokevirtual 129, 3) := by decide +kernel
theorem dX8_improve_52 : decode cX8_improve 52 = .ok (.istore 5, 2) := by decide +kernel
theorem dX8_improve_54 : decode cX8_improve 54 = .ok (.iload 5, 2) := by decide +kernel
theorem dX8_improve_56 : decode cX8_improve 56 = .ok (.iload_n 3, 1) := by decide +kernel
theorem dX8_improve_57 : decode cX8_improve 57 = .ok (.if_icmp .ge 9, 3) := by decide +kernel
theorem dX8_improve_60 : decode cX8_improve 60 = .ok (.iload 4, 2) := by decide +kernel
theorem dX8_improve_62 : decode cX8_improve 62 = .ok (.istore_n 2, 1) := by decide +kernel
theorem dX8_improve_63 : decode cX8_improve 63 = .ok (.iload 5, 2) := by decide +kernel
theorem dX8_improve_65 : decode cX8_improve 65 = .ok (.istore_n 3, 1) := by decide +kernel
theorem dX8_improve_66 : decode cX8_improve 66 = .ok (.aload_n 0, 1) := by decide +kernel
theorem dX8_improve_67 : decode cX8_improve 67 = .ok (.invokevirtual 197, 3) := by decide +kernel
theorem dX8_improve_70 : decode cX8_improve 70 = .ok (.iinc 4 1, 3) := by decide +kernel
theorem dX8_improve_73 : decode cX8_improve 73 = .ok (.goto (-57), 3) := by decide +kernel
theorem dX8_improve_76 : decode cX8_improve 76 = .ok (.iload_n 2, 1) := by decide +kernel
theorem dX8_improve_77 : decode cX8_improve 77 = .ok (.ifCond .ge 7, 3) := by decide +kernel
theorem dX8_improve_80 : decode cX8_improve 80 = .ok (.sipush (-1007), 3) := by decide +kernel
theorem dX8_improve_83 : decode cX8_improve 83 = .ok (.ireturn, 1) := by decide +kernel
theorem dX8_improve_84 : decode cX8_improve 84 = .ok (.aload_n 0, 1) := by decide +kernel
theorem dX8_improve_85 : decode cX8_improve 85 = .ok (.invokevirtual 173, 3) := by decide +kernel
theorem dX8_improve_88 : decode cX8_improve 88 = .ok (.aload_n 0, 1) := by decide +kernel
theorem dX8_improve_89 : decode cX8_improve 89 = .ok (.iload_n 2, 1) := by decide +kernel
theorem dX8_improve_90 : decode cX8_improve 90 = .ok (.invokevirtual 182, 3) := by decide +kernel
theorem dX8_improve_93 : decode cX8_improve 93 = .ok (.aload_n 0, 1) := by decide +kernel
theorem dX8_improve_94 : decode cX8_improve 94 = .ok (.iload_n 2, 1) := by decide +kernel
theorem dX8_improve_95 : decode cX8_improve 95 = .ok (.iconst (-1), 1) := by decide +kernel
theorem dX8_improve_96 : decode cX8_improve 96 = .ok (.invokevirtual 179, 3) := by decide +kernel
theorem dX8_improve_99 : decode cX8_improve 99 = .ok (.pop, 1) := by decide +kernel
theorem dX8_improve_100 : decode cX8_improve 100 = .ok (.iload_n 1, 1) := by decide +kernel
theorem dX8_improve_101 : decode cX8_improve 101 = .ok (.iload_n 3, 1) := by decide +kernel
theorem dX8_improve_102 : decode cX8_improve 102 = .ok (.isub, 1) := by decide +kernel
theorem dX8_improve_103 : decode cX8_improve 103 = .ok (.ireturn, 1) := by decide +kernel
theorem dX8_undo_0 : decode cX8_undo 0 = .ok (.aload_n 0, 1) := by decide +kernel
theorem dX8_undo_1 : decode cX8_undo 1 = .ok (.getfield 79, 3) := by decide +kernel
theorem dX8_undo_4 : decode cX8_undo 4 = .ok (.ifCond .ne 7, 3) := by decide +kernel
theorem dX8_undo_7 : decode cX8_undo 7 = .ok (.sipush (-1007), 3) := by decide +kernel
theorem dX8_undo_10 : decode cX8_undo 10 = .ok (.ireturn, 1) := by decide +kernel
theorem dX8_undo_11 : decode cX8_undo 11 = .ok (.aload_n 0, 1) := by decide +kernel
theorem dX8_undo_12 : decode cX8_undo 12 = .ok (.dup, 1) := by decide +kernel
theorem dX8_undo_13 : decode cX8_undo 13 = .ok (.getfield 79, 3) := by decide +kernel
theorem dX8_undo_16 : decode cX8_undo 16 = .ok (.iconst 1, 1) := by decide +kernel
theorem dX8_undo_17 : decode cX8_undo 17 = .ok (.isub, 1) := by decide +kernel
theorem dX8_undo_18 : decode cX8_undo 18 = .ok (.putfield 79, 3) := by decide +kernel
theorem dX8_undo_21 : decode cX8_undo 21 = .ok (.iconst 0, 1) := by decide +kernel
theorem dX8_undo_22 : decode cX8_undo 22 = .ok (.istore_n 1, 1) := by decide +kernel
theorem dX8_undo_23 : decode cX8_undo 23 = .ok (.iload_n 1, 1) := by decide +kernel
theorem dX8_undo_24 : decode cX8_undo 24 = .ok (.bipush 100, 2) := by decide +kernel
theorem dX8_undo_26 : decode cX8_undo 26 = .ok (.if_icmp .ge 29, 3) := by decide +kernel
theorem dX8_undo_29 : decode cX8_undo 29 = .ok (.aload_n 0, 1) := by decide +kernel
theorem dX8_undo_30 : decode cX8_undo 30 = .ok (.getfield 43, 3) := by decide +kernel
theorem dX8_undo_33 : decode cX8_undo 33 = .ok (.iload_n 1, 1) := by decide +kernel
theorem dX8_undo_34 : decode cX8_undo 34 = .ok (.aload_n 0, 1) := by decide +kernel
theorem dX8_undo_35 : decode cX8_undo 35 = .ok (.getfield 55, 3) := by decide +kernel
theorem dX8_undo_38 : decode cX8_undo 38 = .ok (.bipush 100, 2) := by decide +kernel
theorem dX8_undo_40 : decode cX8_undo 40 = .ok (.aload_n 0, 1) := by decide +kernel
theorem dX8_undo_41 : decode cX8_undo 41 = .ok (.getfield 79, 3) := by decide +kernel
theorem dX8_undo_44 : decode cX8_undo 44 = .ok (.imul, 1) := by decide +kernel
theorem dX8_undo_45 : decode cX8_undo 45 = .ok (.iload_n 1, 1) := by decide +kernel
theorem dX8_undo_46 : decode cX8_undo 46 = .ok (.iadd, 1) := by decide +kernel
theorem dX8_undo_47 : decode cX8_undo 47 = .ok (.iaload, 1) := by decide +kernel
theorem dX8_undo_48 : decode cX8_undo 48 = .ok (.iastore, 1) := by decide +kernel
theorem dX8_undo_49 : decode cX8_undo 49 = .ok (.iinc 1 1, 3) := by decide +kernel
theorem dX8_undo_52 : decode cX8_undo 52 = .ok (.goto (-29), 3) := by decide +kernel
theorem dX8_undo_55 : decode cX8_undo 55 = .ok (.aload_n 0, 1) := by decide +kernel
theorem dX8_undo_56 : decode cX8_undo 56 = .ok (.getfield 79, 3) := by decide +kernel
theorem dX8_undo_59 : decode cX8_undo 59 = .ok (.ireturn, 1) := by decide +kernel
