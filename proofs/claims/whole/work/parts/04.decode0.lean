theorem dX0_init_0 : decode cX0_init 0 = .ok (.aload_n 0, 1) := by decide +kernel
theorem dX0_init_1 : decode cX0_init 1 = .ok (.invokespecial 3, 3) := by decide +kernel
theorem dX0_init_4 : decode cX0_init 4 = .ok (.aload_n 0, 1) := by decide +kernel
theorem dX0_init_5 : decode cX0_init 5 = .ok (.aload_n 1, 1) := by decide +kernel
theorem dX0_init_6 : decode cX0_init 6 = .ok (.putfield 9, 3) := by decide +kernel
theorem dX0_init_9 : decode cX0_init 9 = .ok (.aload_n 0, 1) := by decide +kernel
theorem dX0_init_10 : decode cX0_init 10 = .ok (.sipush 144, 3) := by decide +kernel
theorem dX0_init_13 : decode cX0_init 13 = .ok (.newarray .int, 2) := by decide +kernel
theorem dX0_init_15 : decode cX0_init 15 = .ok (.putfield 15, 3) := by decide +kernel
theorem dX0_init_18 : decode cX0_init 18 = .ok (.aload_n 0, 1) := by decide +kernel
theorem dX0_init_19 : decode cX0_init 19 = .ok (.bipush 12, 2) := by decide +kernel
theorem dX0_init_21 : decode cX0_init 21 = .ok (.newarray .int, 2) := by decide +kernel
theorem dX0_init_23 : decode cX0_init 23 = .ok (.putfield 19, 3) := by decide +kernel
theorem dX0_init_26 : decode cX0_init 26 = .ok (.aload_n 0, 1) := by decide +kernel
theorem dX0_init_27 : decode cX0_init 27 = .ok (.bipush 12, 2) := by decide +kernel
theorem dX0_init_29 : decode cX0_init 29 = .ok (.newarray .int, 2) := by decide +kernel
theorem dX0_init_31 : decode cX0_init 31 = .ok (.putfield 22, 3) := by decide +kernel
theorem dX0_init_34 : decode cX0_init 34 = .ok (.return_, 1) := by decide +kernel
theorem dX0_farness_0 : decode cX0_farness 0 = .ok (.aload_n 0, 1) := by decide +kernel
theorem dX0_farness_1 : decode cX0_farness 1 = .ok (.getfield 15, 3) := by decide +kernel
theorem dX0_farness_4 : decode cX0_farness 4 = .ok (.iload_n 1, 1) := by decide +kernel
theorem dX0_farness_5 : decode cX0_farness 5 = .ok (.bipush 12, 2) := by decide +kernel
theorem dX0_farness_7 : decode cX0_farness 7 = .ok (.imul, 1) := by decide +kernel
theorem dX0_farness_8 : decode cX0_farness 8 = .ok (.iload_n 2, 1) := by decide +kernel
theorem dX0_farness_9 : decode cX0_farness 9 = .ok (.iadd, 1) := by decide +kernel
theorem dX0_farness_10 : decode cX0_farness 10 = .ok (.iaload, 1) := by decide +kernel
theorem dX0_farness_11 : decode cX0_farness 11 = .ok (.ireturn, 1) := by decide +kernel
theorem dX0_measure_0 : decode cX0_measure 0 = .ok (.iconst 0, 1) := by decide +kernel
theorem dX0_measure_1 : decode cX0_measure 1 = .ok (.istore_n 2, 1) := by decide +kernel
theorem dX0_measure_2 : decode cX0_measure 2 = .ok (.iload_n 2, 1) := by decide +kernel
theorem dX0_measure_3 : decode cX0_measure 3 = .ok (.aload_n 0, 1) := by decide +kernel
theorem dX0_measure_4 : decode cX0_measure 4 = .ok (.getfield 9, 3) := by decide +kernel
theorem dX0_measure_7 : decode cX0_measure 7 = .ok (.getfield 25, 3) := by decide +kernel
theorem dX0_measure_10 : decode cX0_measure 10 = .ok (.if_icmp .ge 50, 3) := by decide +kernel
theorem dX0_measure_13 : decode cX0_measure 13 = .ok (.iconst 0, 1) := by decide +kernel
theorem dX0_measure_14 : decode cX0_measure 14 = .ok (.istore_n 3, 1) := by decide +kernel
theorem dX0_measure_15 : decode cX0_measure 15 = .ok (.iload_n 3, 1) := by decide +kernel
theorem dX0_measure_16 : decode cX0_measure 16 = .ok (.aload_n 0, 1) := by decide +kernel
theorem dX0_measure_17 : decode cX0_measure 17 = .ok (.getfield 9, 3) := by decide +kernel
theorem dX0_measure_20 : decode cX0_measure 20 = .ok (.getfield 25, 3) := by decide +kernel
theorem dX0_measure_23 : decode cX0_measure 23 = .ok (.if_icmp .ge 31, 3) := by decide +kernel
theorem dX0_measure_26 : decode cX0_measure 26 = .ok (.aload_n 0, 1) := by decide +kernel
theorem dX0_measure_27 : decode cX0_measure 27 = .ok (.getfield 15, 3) := by decide +kernel
theorem dX0_measure_30 : decode cX0_measure 30 = .ok (.iload_n 2, 1) := by decide +kernel
theorem dX0_measure_31 : decode cX0_measure 31 = .ok (.bipush 12, 2) := by decide +kernel
theorem dX0_measure_33 : decode cX0_measure 33 = .ok (.imul, 1) := by decide +kernel
theorem dX0_measure_34 : decode cX0_measure 34 = .ok (.iload_n 3, 1) := by decide +kernel
theorem dX0_measure_35 : decode cX0_measure 35 = .ok (.iadd, 1) := by decide +kernel
theorem dX0_measure_36 : decode cX0_measure 36 = .ok (.iload_n 2, 1) := by decide +kernel
theorem dX0_measure_37 : decode cX0_measure 37 = .ok (.iload_n 3, 1) := by decide +kernel
theorem dX0_measure_38 : decode cX0_measure 38 = .ok (.if_icmp .ne 7, 3) := by decide +kernel
theorem dX0_measure_41 : decode cX0_measure 41 = .ok (.iconst 0, 1) := by decide +kernel
theorem dX0_measure_42 : decode cX0_measure 42 = .ok (.goto 5, 3) := by decide +kernel
theorem dX0_measure_45 : decode cX0_measure 45 = .ok (.bipush 99, 2) := by decide +kernel
theorem dX0_measure_47 : decode cX0_measure 47 = .ok (.iastore, 1) := by decide +kernel
theorem dX0_measure_48 : decode cX0_measure 48 = .ok (.iinc 3 1, 3) := by decide +kernel
theorem dX0_measure_51 : decode cX0_measure 51 = .ok (.goto (-36), 3) := by decide +kernel
theorem dX0_measure_54 : decode cX0_measure 54 = .ok (.iinc 2 1, 3) := by decide +kernel
theorem dX0_measure_57 : decode cX0_measure 57 = .ok (.goto (-55), 3) := by decide +kernel
theorem dX0_measure_60 : decode cX0_measure 60 = .ok (.iconst 0, 1) := by decide +kernel
theorem dX0_measure_61 : decode cX0_measure 61 = .ok (.istore_n 2, 1) := by decide +kernel
theorem dX0_measure_62 : decode cX0_measure 62 = .ok (.iload_n 2, 1) := by decide +kernel
theorem dX0_measure_63 : decode cX0_measure 63 = .ok (.aload_n 0, 1) := by decide +kernel
theorem dX0_measure_64 : decode cX0_measure 64 = .ok (.getfield 9, 3) := by decide +kernel
theorem dX0_measure_67 : decode cX0_measure 67 = .ok (.getfield 25, 3) := by decide +kernel
theorem dX0_measure_70 : decode cX0_measure 70 = .ok (.if_icmp .ge 15, 3) := by decide +kernel
theorem dX0_measure_73 : decode cX0_measure 73 = .ok (.aload_n 0, 1) := by decide +kernel
theorem dX0_measure_74 : decode cX0_measure 74 = .ok (.iload_n 2, 1) := by decide +kernel
theorem dX0_measure_75 : decode cX0_measure 75 = .ok (.iload_n 1, 1) := by decide +kernel
theorem dX0_measure_76 : decode cX0_measure 76 = .ok (.invokevirtual 31, 3) := by decide +kernel
theorem dX0_measure_79 : decode cX0_measure 79 = .ok (.iinc 2 1, 3) := by decide +kernel
theorem dX0_measure_82 : decode cX0_measure 82 = .ok (.goto (-20), 3) := by decide +kernel
theorem dX0_measure_85 : decode cX0_measure 85 = .ok (.iconst 0, 1) := by decide +kernel
theorem dX0_measure_86 : decode cX0_measure 86 = .ok (.istore_n 2, 1) := by decide +kernel
theorem dX0_measure_87 : decode cX0_measure 87 = .ok (.iload_n 2, 1) := by decide +kernel
theorem dX0_measure_88 : decode cX0_measure 88 = .ok (.aload_n 0, 1) := by decide +kernel
theorem dX0_measure_89 : decode cX0_measure 89 = .ok (.getfield 9, 3) := by decide +kernel
theorem dX0_measure_92 : decode cX0_measure 92 = .ok (.getfield 25, 3) := by decide +kernel
theorem dX0_measure_95 : decode cX0_measure 95 = .ok (.if_icmp .ge 14, 3) := by decide +kernel
theorem dX0_measure_98 : decode cX0_measure 98 = .ok (.aload_n 0, 1) := by decide +kernel
theorem dX0_measure_99 : decode cX0_measure 99 = .ok (.iload_n 2, 1) := by decide +kernel
theorem dX0_measure_100 : decode cX0_measure 100 = .ok (.invokevirtual 35, 3) := by decide +kernel
theorem dX0_measure_103 : decode cX0_measure 103 = .ok (.iinc 2 1, 3) := by decide +kernel
theorem dX0_measure_106 : decode cX0_measure 106 = .ok (.goto (-19), 3) := by decide +kernel
theorem dX0_measure_109 : decode cX0_measure 109 = .ok (.return_, 1) := by decide +kernel
theorem dX0_walkOn_0 : decode cX0_walkOn 0 = .ok (.aload_n 0, 1) := by decide +kernel
theorem dX0_walkOn_1 : decode cX0_walkOn 1 = .ok (.getfield 9, 3) := by decide +kernel
theorem dX0_walkOn_4 : decode cX0_walkOn 4 = .ok (.getfield 25, 3) := by decide +kernel
theorem dX0_walkOn_7 : decode cX0_walkOn 7 = .ok (.istore_n 3, 1) := by decide +kernel
theorem dX0_walkOn_8 : decode cX0_walkOn 8 = .ok (.iload_n 1, 1) := by decide +kernel
theorem dX0_walkOn_9 : decode cX0_walkOn 9 = .ok (.istore 4, 2) := by decide +kernel
theorem dX0_walkOn_11 : decode cX0_walkOn 11 = .ok (.iconst 0, 1) := by decide +kernel
theorem dX0_walkOn_12 : decode cX0_walkOn 12 = .ok (.istore 5, 2) := by decide +kernel
theorem dX0_walkOn_14 : decode cX0_walkOn 14 = .ok (.iconst 1, 1) := by decide +kernel
theorem dX0_walkOn_15 : decode cX0_walkOn 15 = .ok (.istore 6, 2) := by decide +kernel
theorem dX0_walkOn_17 : decode cX0_walkOn 17 = .ok (.iload 6, 2) := by decide +kernel
theorem dX0_walkOn_19 : decode cX0_walkOn 19 = .ok (.iload_n 3, 1) := by decide +kernel
theorem dX0_walkOn_20 : decode cX0_walkOn 20 = .ok (.if_icmp .ge 122, 3) := by decide +kernel
theorem dX0_walkOn_23 : decode cX0_walkOn 23 = .ok (.iload_n 2, 1) := by decide +kernel
theorem dX0_walkOn_24 : decode cX0_walkOn 24 = .ok (.iload 4, 2) := by decide +kernel
theorem dX0_walkOn_26 : decode cX0_walkOn 26 = .ok (.ishr, 1) := by decide +kernel
theorem dX0_walkOn_27 : decode cX0_walkOn 27 = .ok (.iconst 1, 1) := by decide +kernel
theorem dX0_walkOn_28 : decode cX0_walkOn 28 = .ok (.iand, 1) := by decide +kernel
theorem dX0_walkOn_29 : decode cX0_walkOn 29 = .ok (.ifCond .eq 7, 3) := by decide +kernel
theorem dX0_walkOn_32 : decode cX0_walkOn 32 = .ok (.iconst 1, 1) := by decide +kernel
theorem dX0_walkOn_33 : decode cX0_walkOn 33 = .ok (.goto 4, 3) := by decide +kernel
theorem dX0_walkOn_36 : decode cX0_walkOn 36 = .ok (.iconst 0, 1) := by decide +kernel
theorem dX0_walkOn_37 : decode cX0_walkOn 37 = .ok (.istore 7, 2) := by decide +kernel
theorem dX0_walkOn_39 : decode cX0_walkOn 39 = .ok (.iload 7, 2) := by decide +kernel
theorem dX0_walkOn_41 : decode cX0_walkOn 41 = .ok (.ifCond .ne 16, 3) := by decide +kernel
theorem dX0_walkOn_44 : decode cX0_walkOn 44 = .ok (.aload_n 0, 1) := by decide +kernel
theorem dX0_walkOn_45 : decode cX0_walkOn 45 = .ok (.getfield 9, 3) := by decide +kernel
theorem dX0_walkOn_48 : decode cX0_walkOn 48 = .ok (.getfield 39, 3) := by decide +kernel
theorem dX0_walkOn_51 : decode cX0_walkOn 51 = .ok (.iload 4, 2) := by decide +kernel
theorem dX0_walkOn_53 : decode cX0_walkOn 53 = .ok (.iaload, 1) := by decide +kernel
theorem dX0_walkOn_54 : decode cX0_walkOn 54 = .ok (.ifCond .ne 4, 3) := by decide +kernel
theorem dX0_walkOn_57 : decode cX0_walkOn 57 = .ok (.return_, 1) := by decide +kernel
theorem dX0_walkOn_58 : decode cX0_walkOn 58 = .ok (.iload 5, 2) := by decide +kernel
theorem dX0_walkOn_60 : decode cX0_walkOn 60 = .ok (.aload_n 0, 1) := by decide +kernel
theorem dX0_walkOn_61 : decode cX0_walkOn 61 = .ok (.getfield 9, 3) := by decide +kernel
theorem dX0_walkOn_64 : decode cX0_walkOn 64 = .ok (.getfield 39, 3) := by decide +kernel
theorem dX0_walkOn_67 : decode cX0_walkOn 67 = .ok (.iload 4, 2) := by decide +kernel
theorem dX0_walkOn_69 : decode cX0_walkOn 69 = .ok (.iaload, 1) := by decide +kernel
theorem dX0_walkOn_70 : decode cX0_walkOn 70 = .ok (.iadd, 1) := by decide +kernel
theorem dX0_walkOn_71 : decode cX0_walkOn 71 = .ok (.istore 5, 2) := by decide +kernel
theorem dX0_walkOn_73 : decode cX0_walkOn 73 = .ok (.iload 4, 2) := by decide +kernel
theorem dX0_walkOn_75 : decode cX0_walkOn 75 = .ok (.iconst 1, 1) := by decide +kernel
theorem dX0_walkOn_76 : decode cX0_walkOn 76 = .ok (.iadd, 1) := by decide +kernel
theorem dX0_walkOn_77 : decode cX0_walkOn 77 = .ok (.iload_n 3, 1) := by decide +kernel
theorem dX0_walkOn_78 : decode cX0_walkOn 78 = .ok (.if_icmp .ge 10, 3) := by decide +kernel
theorem dX0_walkOn_81 : decode cX0_walkOn 81 = .ok (.iload 4, 2) := by decide +kernel
theorem dX0_walkOn_83 : decode cX0_walkOn 83 = .ok (.iconst 1, 1) := by decide +kernel
theorem dX0_walkOn_84 : decode cX0_walkOn 84 = .ok (.iadd, 1) := by decide +kernel
theorem dX0_walkOn_85 : decode cX0_walkOn 85 = .ok (.goto 4, 3) := by decide +kernel
theorem dX0_walkOn_88 : decode cX0_walkOn 88 = .ok (.iconst 0, 1) := by decide +kernel
theorem dX0_walkOn_89 : decode cX0_walkOn 89 = .ok (.istore 4, 2) := by decide +kernel
theorem dX0_walkOn_91 : decode cX0_walkOn 91 = .ok (.iload 5, 2) := by decide +kernel
theorem dX0_walkOn_93 : decode cX0_walkOn 93 = .ok (.aload_n 0, 1) := by decide +kernel
theorem dX0_walkOn_94 : decode cX0_walkOn 94 = .ok (.getfield 15, 3) := by decide +kernel
theorem dX0_walkOn_97 : decode cX0_walkOn 97 = .ok (.iload_n 1, 1) := by decide +kernel
theorem dX0_walkOn_98 : decode cX0_walkOn 98 = .ok (.bipush 12, 2) := by decide +kernel
theorem dX0_walkOn_100 : decode cX0_walkOn 100 = .ok (.imul, 1) := by decide +kernel
theorem dX0_walkOn_101 : decode cX0_walkOn 101 = .ok (.iload 4, 2) := by decide +kernel
theorem dX0_walkOn_103 : decode cX0_walkOn 103 = .ok (.iadd, 1) := by decide +kernel
theorem dX0_walkOn_104 : decode cX0_walkOn 104 = .ok (.iaload, 1) := by decide +kernel
theorem dX0_walkOn_105 : decode cX0_walkOn 105 = .ok (.if_icmp .ge 31, 3) := by decide +kernel
theorem dX0_walkOn_108 : decode cX0_walkOn 108 = .ok (.aload_n 0, 1) := by decide +kernel
theorem dX0_walkOn_109 : decode cX0_walkOn 109 = .ok (.getfield 15, 3) := by decide +kernel
theorem dX0_walkOn_112 : decode cX0_walkOn 112 = .ok (.iload_n 1, 1) := by decide +kernel
theorem dX0_walkOn_113 : decode cX0_walkOn 113 = .ok (.bipush 12, 2) := by decide +kernel
theorem dX0_walkOn_115 : decode cX0_walkOn 115 = .ok (.imul, 1) := by decide +kernel
theorem dX0_walkOn_116 : decode cX0_walkOn 116 = .ok (.iload 4, 2) := by decide +kernel
theorem dX0_walkOn_118 : decode cX0_walkOn 118 = .ok (.iadd, 1) := by decide +kernel
theorem dX0_walkOn_119 : decode cX0_walkOn 119 = .ok (.iload 5, 2) := by decide +kernel
theorem dX0_walkOn_121 : decode cX0_walkOn 121 = .ok (.iastore, 1) := by decide +kernel
theorem dX0_walkOn_122 : decode cX0_walkOn 122 = .ok (.aload_n 0, 1) := by decide +kernel
theorem dX0_walkOn_123 : decode cX0_walkOn 123 = .ok (.getfield 15, 3) := by decide +kernel
theorem dX0_walkOn_126 : decode cX0_walkOn 126 = .ok (.iload 4, 2) := by decide +kernel
theorem dX0_walkOn_128 : decode cX0_walkOn 128 = .ok (.bipush 12, 2) := by decide +kernel
theorem dX0_walkOn_130 : decode cX0_walkOn 130 = .ok (.imul, 1) := by decide +kernel
theorem dX0_walkOn_131 : decode cX0_walkOn 131 = .ok (.iload_n 1, 1) := by decide +kernel
theorem dX0_walkOn_132 : decode cX0_walkOn 132 = .ok (.iadd, 1) := by decide +kernel
theorem dX0_walkOn_133 : decode cX0_walkOn 133 = .ok (.iload 5, 2) := by decide +kernel
theorem dX0_walkOn_135 : decode cX0_walkOn 135 = .ok (.iastore, 1) := by decide +kernel
theorem dX0_walkOn_136 : decode cX0_walkOn 136 = .ok (.iinc 6 1, 3) := by decide +kernel
theorem dX0_walkOn_139 : decode cX0_walkOn 139 = .ok (.goto (-122), 3) := by decide +kernel
theorem dX0_walkOn_142 : decode cX0_walkOn 142 = .ok (.return_, 1) := by decide +kernel
theorem dX0_lookRound_0 : decode cX0_lookRound 0 = .ok (.iconst 0, 1) := by decide +kernel
theorem dX0_lookRound_1 : decode cX0_lookRound 1 = .ok (.istore_n 2, 1) := by decide +kernel
theorem dX0_lookRound_2 : decode cX0_lookRound 2 = .ok (.iconst 0, 1) := by decide +kernel
theorem dX0_lookRound_3 : decode cX0_lookRound 3 = .ok (.istore_n 3, 1) := by decide +kernel
theorem dX0_lookRound_4 : decode cX0_lookRound 4 = .ok (.iconst 0, 1) := by decide +kernel
theorem dX0_lookRound_5 : decode cX0_lookRound 5 = .ok (.istore 4, 2) := by decide +kernel
theorem dX0_lookRound_7 : decode cX0_lookRound 7 = .ok (.iload 4, 2) := by decide +kernel
theorem dX0_lookRound_9 : decode cX0_lookRound 9 = .ok (.aload_n 0, 1) := by decide +kernel
theorem dX0_lookRound_10 : decode cX0_lookRound 10 = .ok (.getfield 9, 3) := by decide +kernel
theorem dX0_lookRound_13 : decode cX0_lookRound 13 = .ok (.getfield 25, 3) := by decide +kernel
theorem dX0_lookRound_16 : decode cX0_lookRound 16 = .ok (.if_icmp .ge 51, 3) := by decide +kernel
theorem dX0_lookRound_19 : decode cX0_lookRound 19 = .ok (.aload_n 0, 1) := by decide +kernel
theorem dX0_lookRound_20 : decode cX0_lookRound 20 = .ok (.getfield 15, 3) := by decide +kernel
theorem dX0_lookRound_23 : decode cX0_lookRound 23 = .ok (.iload_n 1, 1) := by decide +kernel
theorem dX0_lookRound_24 : decode cX0_lookRound 24 = .ok (.bipush 12, 2) := by decide +kernel
theorem dX0_lookRound_26 : decode cX0_lookRound 26 = .ok (.imul, 1) := by decide +kernel
theorem dX0_lookRound_27 : decode cX0_lookRound 27 = .ok (.iload 4, 2) := by decide +kernel
theorem dX0_lookRound_29 : decode cX0_lookRound 29 = .ok (.iadd, 1) := by decide +kernel
theorem dX0_lookRound_30 : decode cX0_lookRound 30 = .ok (.iaload, 1) := by decide +kernel
theorem dX0_lookRound_31 : decode cX0_lookRound 31 = .ok (.istore 5, 2) := by decide +kernel
theorem dX0_lookRound_33 : decode cX0_lookRound 33 = .ok (.iload 5, 2) := by decide +kernel
theorem dX0_lookRound_35 : decode cX0_lookRound 35 = .ok (.aload_n 0, 1) := by decide +kernel
theorem dX0_lookRound_36 : decode cX0_lookRound 36 = .ok (.getfield 9, 3) := by decide +kernel
theorem dX0_lookRound_39 : decode cX0_lookRound 39 = .ok (.getfield 42, 3) := by decide +kernel
theorem dX0_lookRound_42 : decode cX0_lookRound 42 = .ok (.if_icmp .ge 10, 3) := by decide +kernel
theorem dX0_lookRound_45 : decode cX0_lookRound 45 = .ok (.iload_n 2, 1) := by decide +kernel
theorem dX0_lookRound_46 : decode cX0_lookRound 46 = .ok (.iconst 1, 1) := by decide +kernel
theorem dX0_lookRound_47 : decode cX0_lookRound 47 = .ok (.iload 4, 2) := by decide +kernel
theorem dX0_lookRound_49 : decode cX0_lookRound 49 = .ok (.ishl, 1) := by decide +kernel
theorem dX0_lookRound_50 : decode cX0_lookRound 50 = .ok (.ior, 1) := by decide +kernel
theorem dX0_lookRound_51 : decode cX0_lookRound 51 = .ok (.istore_n 2, 1) := by decide +kernel
theorem dX0_lookRound_52 : decode cX0_lookRound 52 = .ok (.iload 5, 2) := by decide +kernel
theorem dX0_lookRound_54 : decode cX0_lookRound 54 = .ok (.iconst 1, 1) := by decide +kernel
theorem dX0_lookRound_55 : decode cX0_lookRound 55 = .ok (.if_icmp .ne 6, 3) := by decide +kernel
theorem dX0_lookRound_58 : decode cX0_lookRound 58 = .ok (.iinc 3 1, 3) := by decide +kernel
theorem dX0_lookRound_61 : decode cX0_lookRound 61 = .ok (.iinc 4 1, 3) := by decide +kernel
theorem dX0_lookRound_64 : decode cX0_lookRound 64 = .ok (.goto (-57), 3) := by decide +kernel
theorem dX0_lookRound_67 : decode cX0_lookRound 67 = .ok (.aload_n 0, 1) := by decide +kernel
theorem dX0_lookRound_68 : decode cX0_lookRound 68 = .ok (.getfield 19, 3) := by decide +kernel
theorem dX0_lookRound_71 : decode cX0_lookRound 71 = .ok (.iload_n 1, 1) := by decide +kernel
theorem dX0_lookRound_72 : decode cX0_lookRound 72 = .ok (.iload_n 2, 1) := by decide +kernel
theorem dX0_lookRound_73 : decode cX0_lookRound 73 = .ok (.iastore, 1) := by decide +kernel
theorem dX0_lookRound_74 : decode cX0_lookRound 74 = .ok (.aload_n 0, 1) := by decide +kernel
theorem dX0_lookRound_75 : decode cX0_lookRound 75 = .ok (.getfield 22, 3) := by decide +kernel
theorem dX0_lookRound_78 : decode cX0_lookRound 78 = .ok (.iload_n 1, 1) := by decide +kernel
theorem dX0_lookRound_79 : decode cX0_lookRound 79 = .ok (.iload_n 3, 1) := by decide +kernel
theorem dX0_lookRound_80 : decode cX0_lookRound 80 = .ok (.iastore, 1) := by decide +kernel
theorem dX0_lookRound_81 : decode cX0_lookRound 81 = .ok (.return_, 1) := by decide +kernel
theorem dX1_init_0 : decode cX1_init 0 = .ok (.aload_n 0, 1) := by decide +kernel
theorem dX1_init_1 : decode cX1_init 1 = .ok (.invokespecial 3, 3) := by decide +kernel
theorem dX1_init_4 : decode cX1_init 4 = .ok (.aload_n 0, 1) := by decide +kernel
theorem dX1_init_5 : decode cX1_init 5 = .ok (.bipush 13, 2) := by decide +kernel
theorem dX1_init_7 : decode cX1_init 7 = .ok (.newarray .int, 2) := by decide +kernel
theorem dX1_init_9 : decode cX1_init 9 = .ok (.putfield 9, 3) := by decide +kernel
theorem dX1_init_12 : decode cX1_init 12 = .ok (.aload_n 0, 1) := by decide +kernel
theorem dX1_init_13 : decode cX1_init 13 = .ok (.bipush 13, 2) := by decide +kernel
theorem dX1_init_15 : decode cX1_init 15 = .ok (.newarray .long, 2) := by decide +kernel
theorem dX1_init_17 : decode cX1_init 17 = .ok (.putfield 15, 3) := by decide +kernel
theorem dX1_init_20 : decode cX1_init 20 = .ok (.return_, 1) := by decide +kernel
theorem dX1_take_0 : decode cX1_take 0 = .ok (.aload_n 0, 1) := by decide +kernel
theorem dX1_take_1 : decode cX1_take 1 = .ok (.getfield 19, 3) := by decide +kernel
theorem dX1_take_4 : decode cX1_take 4 = .ok (.ifCond .eq 4, 3) := by decide +kernel
theorem dX1_take_7 : decode cX1_take 7 = .ok (.return_, 1) := by decide +kernel
theorem dX1_take_8 : decode cX1_take 8 = .ok (.aload_n 2, 1) := by decide +kernel
theorem dX1_take_9 : decode cX1_take 9 = .ok (.aload_n 1, 1) := by decide +kernel
theorem dX1_take_10 : decode cX1_take 10 = .ok (.getfield 23, 3) := by decide +kernel
theorem dX1_take_13 : decode cX1_take 13 = .ok (.aload_n 1, 1) := by decide +kernel
theorem dX1_take_14 : decode cX1_take 14 = .ok (.getfield 28, 3) := by decide +kernel
theorem dX1_take_17 : decode cX1_take 17 = .ok (.getfield 32, 3) := by decide +kernel
theorem dX1_take_20 : decode cX1_take 20 = .ok (.aload_n 1, 1) := by decide +kernel
theorem dX1_take_21 : decode cX1_take 21 = .ok (.getfield 28, 3) := by decide +kernel
theorem dX1_take_24 : decode cX1_take 24 = .ok (.invokevirtual 38, 3) := by decide +kernel
theorem dX1_take_27 : decode cX1_take 27 = .ok (.invokevirtual 42, 3) := by decide +kernel
theorem dX1_take_30 : decode cX1_take 30 = .ok (.aload_n 2, 1) := by decide +kernel
theorem dX1_take_31 : decode cX1_take 31 = .ok (.invokevirtual 48, 3) := by decide +kernel
theorem dX1_take_34 : decode cX1_take 34 = .ok (.aload_n 0, 1) := by decide +kernel
theorem dX1_take_35 : decode cX1_take 35 = .ok (.getfield 9, 3) := by decide +kernel
theorem dX1_take_38 : decode cX1_take 38 = .ok (.iconst 0, 1) := by decide +kernel
theorem dX1_take_39 : decode cX1_take 39 = .ok (.invokestatic 51, 3) := by decide +kernel
theorem dX1_take_42 : decode cX1_take 42 = .ok (.aload_n 0, 1) := by decide +kernel
theorem dX1_take_43 : decode cX1_take 43 = .ok (.getfield 15, 3) := by decide +kernel
theorem dX1_take_46 : decode cX1_take 46 = .ok (.lconst 0, 1) := by decide +kernel
theorem dX1_take_47 : decode cX1_take 47 = .ok (.invokestatic 57, 3) := by decide +kernel
theorem dX1_take_50 : decode cX1_take 50 = .ok (.aload_n 0, 1) := by decide +kernel
theorem dX1_take_51 : decode cX1_take 51 = .ok (.bipush (-6), 2) := by decide +kernel
theorem dX1_take_53 : decode cX1_take 53 = .ok (.putfield 60, 3) := by decide +kernel
theorem dX1_take_56 : decode cX1_take 56 = .ok (.aload_n 0, 1) := by decide +kernel
theorem dX1_take_57 : decode cX1_take 57 = .ok (.bipush (-6), 2) := by decide +kernel
theorem dX1_take_59 : decode cX1_take 59 = .ok (.putfield 63, 3) := by decide +kernel
theorem dX1_take_62 : decode cX1_take 62 = .ok (.iconst 0, 1) := by decide +kernel
theorem dX1_take_63 : decode cX1_take 63 = .ok (.istore_n 3, 1) := by decide +kernel
theorem dX1_take_64 : decode cX1_take 64 = .ok (.iload_n 3, 1) := by decide +kernel
theorem dX1_take_65 : decode cX1_take 65 = .ok (.aload_n 2, 1) := by decide +kernel
theorem dX1_take_66 : decode cX1_take 66 = .ok (.getfield 66, 3) := by decide +kernel
theorem dX1_take_69 : decode cX1_take 69 = .ok (.if_icmp .ge 39, 3) := by decide +kernel
theorem dX1_take_72 : decode cX1_take 72 = .ok (.aload_n 2, 1) := by decide +kernel
theorem dX1_take_73 : decode cX1_take 73 = .ok (.getfield 69, 3) := by decide +kernel
theorem dX1_take_76 : decode cX1_take 76 = .ok (.iload_n 3, 1) := by decide +kernel
theorem dX1_take_77 : decode cX1_take 77 = .ok (.iaload, 1) := by decide +kernel
theorem dX1_take_78 : decode cX1_take 78 = .ok (.ifCond .ne 24, 3) := by decide +kernel
theorem dX1_take_81 : decode cX1_take 81 = .ok (.aload_n 0, 1) := by decide +kernel
theorem dX1_take_82 : decode cX1_take 82 = .ok (.aload_n 2, 1) := by decide +kernel
theorem dX1_take_83 : decode cX1_take 83 = .ok (.getfield 72, 3) := by decide +kernel
theorem dX1_take_86 : decode cX1_take 86 = .ok (.iload_n 3, 1) := by decide +kernel
theorem dX1_take_87 : decode cX1_take 87 = .ok (.iaload, 1) := by decide +kernel
theorem dX1_take_88 : decode cX1_take 88 = .ok (.aload_n 2, 1) := by decide +kernel
theorem dX1_take_89 : decode cX1_take 89 = .ok (.getfield 75, 3) := by decide +kernel
theorem dX1_take_92 : decode cX1_take 92 = .ok (.aload_n 2, 1) := by decide +kernel
theorem dX1_take_93 : decode cX1_take 93 = .ok (.getfield 72, 3) := by decide +kernel
theorem dX1_take_96 : decode cX1_take 96 = .ok (.iload_n 3, 1) := by decide +kernel
theorem dX1_take_97 : decode cX1_take 97 = .ok (.iaload, 1) := by decide +kernel
theorem dX1_take_98 : decode cX1_take 98 = .ok (.iaload, 1) := by decide +kernel
theorem dX1_take_99 : decode cX1_take 99 = .ok (.invokevirtual 78, 3) := by decide +kernel
theorem dX1_take_102 : decode cX1_take 102 = .ok (.iinc 3 1, 3) := by decide +kernel
theorem dX1_take_105 : decode cX1_take 105 = .ok (.goto (-41), 3) := by decide +kernel
theorem dX1_take_108 : decode cX1_take 108 = .ok (.aload_n 0, 1) := by decide +kernel
theorem dX1_take_109 : decode cX1_take 109 = .ok (.iconst 1, 1) := by decide +kernel
theorem dX1_take_110 : decode cX1_take 110 = .ok (.putfield 19, 3) := by decide +kernel
theorem dX1_take_113 : decode cX1_take 113 = .ok (.return_, 1) := by decide +kernel
theorem dX1_note_0 : decode cX1_note 0 = .ok (.iload_n 1, 1) := by decide +kernel
theorem dX1_note_1 : decode cX1_note 1 = .ok (.invokestatic 82, 3) := by decide +kernel
theorem dX1_note_4 : decode cX1_note 4 = .ok (.istore_n 3, 1) := by decide +kernel
theorem dX1_note_5 : decode cX1_note 5 = .ok (.aload_n 0, 1) := by decide +kernel
theorem dX1_note_6 : decode cX1_note 6 = .ok (.getfield 9, 3) := by decide +kernel
theorem dX1_note_9 : decode cX1_note 9 = .ok (.iload_n 3, 1) := by decide +kernel
theorem dX1_note_10 : decode cX1_note 10 = .ok (.dup2, 1) := by decide +kernel
theorem dX1_note_11 : decode cX1_note 11 = .ok (.iaload, 1) := by decide +kernel
theorem dX1_note_12 : decode cX1_note 12 = .ok (.iconst 1, 1) := by decide +kernel
theorem dX1_note_13 : decode cX1_note 13 = .ok (.iadd, 1) := by decide +kernel
theorem dX1_note_14 : decode cX1_note 14 = .ok (.iastore, 1) := by decide +kernel
theorem dX1_note_15 : decode cX1_note 15 = .ok (.aload_n 0, 1) := by decide +kernel
theorem dX1_note_16 : decode cX1_note 16 = .ok (.getfield 15, 3) := by decide +kernel
theorem dX1_note_19 : decode cX1_note 19 = .ok (.iload_n 3, 1) := by decide +kernel
theorem dX1_note_20 : decode cX1_note 20 = .ok (.dup2, 1) := by decide +kernel
theorem dX1_note_21 : decode cX1_note 21 = .ok (.laload, 1) := by decide +kernel
theorem dX1_note_22 : decode cX1_note 22 = .ok (.iload_n 2, 1) := by decide +kernel
theorem dX1_note_23 : decode cX1_note 23 = .ok (.i2l, 1) := by decide +kernel
theorem dX1_note_24 : decode cX1_note 24 = .ok (.ladd, 1) := by decide +kernel
theorem dX1_note_25 : decode cX1_note 25 = .ok (.lastore, 1) := by decide +kernel
theorem dX1_note_26 : decode cX1_note 26 = .ok (.aload_n 0, 1) := by decide +kernel
theorem dX1_note_27 : decode cX1_note 27 = .ok (.getfield 60, 3) := by decide +kernel
theorem dX1_note_30 : decode cX1_note 30 = .ok (.bipush (-6), 2) := by decide +kernel
theorem dX1_note_32 : decode cX1_note 32 = .ok (.if_icmp .eq 14, 3) := by decide +kernel
theorem dX1_note_35 : decode cX1_note 35 = .ok (.iload_n 3, 1) := by decide +kernel
theorem dX1_note_36 : decode cX1_note 36 = .ok (.aload_n 0, 1) := by decide +kernel
theorem dX1_note_37 : decode cX1_note 37 = .ok (.getfield 60, 3) := by decide +kernel
theorem dX1_note_40 : decode cX1_note 40 = .ok (.invokestatic 82, 3) := by decide +kernel
theorem dX1_note_43 : decode cX1_note 43 = .ok (.if_icmp .ge 8, 3) := by decide +kernel
theorem dX1_note_46 : decode cX1_note 46 = .ok (.aload_n 0, 1) := by decide +kernel
theorem dX1_note_47 : decode cX1_note 47 = .ok (.iload_n 1, 1) := by decide +kernel
theorem dX1_note_48 : decode cX1_note 48 = .ok (.putfield 60, 3) := by decide +kernel
theorem dX1_note_51 : decode cX1_note 51 = .ok (.aload_n 0, 1) := by decide +kernel
theorem dX1_note_52 : decode cX1_note 52 = .ok (.getfield 63, 3) := by decide +kernel
theorem dX1_note_55 : decode cX1_note 55 = .ok (.bipush (-6), 2) := by decide +kernel
theorem dX1_note_57 : decode cX1_note 57 = .ok (.if_icmp .eq 14, 3) := by decide +kernel
theorem dX1_note_60 : decode cX1_note 60 = .ok (.iload_n 3, 1) := by decide +kernel
theorem dX1_note_61 : decode cX1_note 61 = .ok (.aload_n 0, 1) := by decide +kernel
theorem dX1_note_62 : decode cX1_note 62 = .ok (.getfield 63, 3) := by decide +kernel
theorem dX1_note_65 : decode cX1_note 65 = .ok (.invokestatic 82, 3) := by decide +kernel
theorem dX1_note_68 : decode cX1_note 68 = .ok (.if_icmp .le 8, 3) := by decide +kernel
theorem dX1_note_71 : decode cX1_note 71 = .ok (.aload_n 0, 1) := by decide +kernel
theorem dX1_note_72 : decode cX1_note 72 = .ok (.iload_n 1, 1) := by decide +kernel
theorem dX1_note_73 : decode cX1_note 73 = .ok (.putfield 63, 3) := by decide +kernel
theorem dX1_note_76 : decode cX1_note 76 = .ok (.return_, 1) := by decide +kernel
theorem dX1_sumOfSitters_0 : decode cX1_sumOfSitters 0 = .ok (.lconst 0, 1) := by decide +kernel
theorem dX1_sumOfSitters_1 : decode cX1_sumOfSitters 1 = .ok (.lstore_n 1, 1) := by decide +kernel
theorem dX1_sumOfSitters_2 : decode cX1_sumOfSitters 2 = .ok (.iconst 0, 1) := by decide +kernel
theorem dX1_sumOfSitters_3 : decode cX1_sumOfSitters 3 = .ok (.istore_n 3, 1) := by decide +kernel
theorem dX1_sumOfSitters_4 : decode cX1_sumOfSitters 4 = .ok (.iload_n 3, 1) := by decide +kernel
theorem dX1_sumOfSitters_5 : decode cX1_sumOfSitters 5 = .ok (.bipush 12, 2) := by decide +kernel
theorem dX1_sumOfSitters_7 : decode cX1_sumOfSitters 7 = .ok (.if_icmp .gt 21, 3) := by decide +kernel
theorem dX1_sumOfSitters_10 : decode cX1_sumOfSitters 10 = .ok (.lload_n 1, 1) := by decide +kernel
theorem dX1_sumOfSitters_11 : decode cX1_sumOfSitters 11 = .ok (.iload_n 3, 1) := by decide +kernel
theorem dX1_sumOfSitters_12 : decode cX1_sumOfSitters 12 = .ok (.i2l, 1) := by decide +kernel
theorem dX1_sumOfSitters_13 : decode cX1_sumOfSitters 13 = .ok (.aload_n 0, 1) := by decide +kernel
theorem dX1_sumOfSitters_14 : decode cX1_sumOfSitters 14 = .ok (.getfield 15, 3) := by decide +kernel
theorem dX1_sumOfSitters_17 : decode cX1_sumOfSitters 17 = .ok (.iload_n 3, 1) := by decide +kernel
theorem dX1_sumOfSitters_18 : decode cX1_sumOfSitters 18 = .ok (.laload, 1) := by decide +kernel
theorem dX1_sumOfSitters_19 : decode cX1_sumOfSitters 19 = .ok (.lmul, 1) := by decide +kernel
theorem dX1_sumOfSitters_20 : decode cX1_sumOfSitters 20 = .ok (.ladd, 1) := by decide +kernel
theorem dX1_sumOfSitters_21 : decode cX1_sumOfSitters 21 = .ok (.lstore_n 1, 1) := by decide +kernel
theorem dX1_sumOfSitters_22 : decode cX1_sumOfSitters 22 = .ok (.iinc 3 1, 3) := by decide +kernel
theorem dX1_sumOfSitters_25 : decode cX1_sumOfSitters 25 = .ok (.goto (-21), 3) := by decide +kernel
theorem dX1_sumOfSitters_28 : decode cX1_sumOfSitters 28 = .ok (.lload_n 1, 1) := by decide +kernel
theorem dX1_sumOfSitters_29 : decode cX1_sumOfSitters 29 = .ok (.lreturn, 1) := by decide +kernel
theorem dX2_init_0 : decode cX2_init 0 = .ok (.aload_n 0, 1) := by decide +kernel
theorem dX2_init_1 : decode cX2_init 1 = .ok (.invokespecial 3, 3) := by decide +kernel
theorem dX2_init_4 : decode cX2_init 4 = .ok (.aload_n 0, 1) := by decide +kernel
theorem dX2_init_5 : decode cX2_init 5 = .ok (.bipush 12, 2) := by decide +kernel
theorem dX2_init_7 : decode cX2_init 7 = .ok (.newarray .int, 2) := by decide +kernel
theorem dX2_init_9 : decode cX2_init 9 = .ok (.putfield 9, 3) := by decide +kernel
theorem dX2_init_12 : decode cX2_init 12 = .ok (.aload_n 0, 1) := by decide +kernel
theorem dX2_init_13 : decode cX2_init 13 = .ok (.bipush 12, 2) := by decide +kernel
theorem dX2_init_15 : decode cX2_init 15 = .ok (.newarray .int, 2) := by decide +kernel
theorem dX2_init_17 : decode cX2_init 17 = .ok (.putfield 15, 3) := by decide +kernel
theorem dX2_init_20 : decode cX2_init 20 = .ok (.aload_n 0, 1) := by decide +kernel
theorem dX2_init_21 : decode cX2_init 21 = .ok (.bipush 12, 2) := by decide +kernel
theorem dX2_init_23 : decode cX2_init 23 = .ok (.newarray .int, 2) := by decide +kernel
theorem dX2_init_25 : decode cX2_init 25 = .ok (.putfield 18, 3) := by decide +kernel
theorem dX2_init_28 : decode cX2_init 28 = .ok (.aload_n 0, 1) := by decide +kernel
theorem dX2_init_29 : decode cX2_init 29 = .ok (.bipush 12, 2) := by decide +kernel
theorem dX2_init_31 : decode cX2_init 31 = .ok (.newarray .int, 2) := by decide +kernel
theorem dX2_init_33 : decode cX2_init 33 = .ok (.putfield 21, 3) := by decide +kernel
theorem dX2_init_36 : decode cX2_init 36 = .ok (.return_, 1) := by decide +kernel
theorem dX2_list_0 : decode cX2_list 0 = .ok (.aload_n 0, 1) := by decide +kernel
theorem dX2_list_1 : decode cX2_list 1 = .ok (.iconst 0, 1) := by decide +kernel
theorem dX2_list_2 : decode cX2_list 2 = .ok (.putfield 24, 3) := by decide +kernel
theorem dX2_list_5 : decode cX2_list 5 = .ok (.iconst 0, 1) := by decide +kernel
theorem dX2_list_6 : decode cX2_list 6 = .ok (.istore_n 2, 1) := by decide +kernel
theorem dX2_list_7 : decode cX2_list 7 = .ok (.iload_n 2, 1) := by decide +kernel
theorem dX2_list_8 : decode cX2_list 8 = .ok (.aload_n 1, 1) := by decide +kernel
theorem dX2_list_9 : decode cX2_list 9 = .ok (.getfield 28, 3) := by decide +kernel
theorem dX2_list_12 : decode cX2_list 12 = .ok (.getfield 34, 3) := by decide +kernel
theorem dX2_list_15 : decode cX2_list 15 = .ok (.if_icmp .ge 101, 3) := by decide +kernel
theorem dX2_list_18 : decode cX2_list 18 = .ok (.iload_n 2, 1) := by decide +kernel
theorem dX2_list_19 : decode cX2_list 19 = .ok (.iconst 1, 1) := by decide +kernel
theorem dX2_list_20 : decode cX2_list 20 = .ok (.iadd, 1) := by decide +kernel
theorem dX2_list_21 : decode cX2_list 21 = .ok (.istore_n 3, 1) := by decide +kernel
theorem dX2_list_22 : decode cX2_list 22 = .ok (.iload_n 3, 1) := by decide +kernel
theorem dX2_list_23 : decode cX2_list 23 = .ok (.aload_n 1, 1) := by decide +kernel
theorem dX2_list_24 : decode cX2_list 24 = .ok (.getfield 28, 3) := by decide +kernel
theorem dX2_list_27 : decode cX2_list 27 = .ok (.getfield 34, 3) := by decide +kernel
theorem dX2_list_30 : decode cX2_list 30 = .ok (.if_icmp .ge 80, 3) := by decide +kernel
theorem dX2_list_33 : decode cX2_list 33 = .ok (.aload_n 1, 1) := by decide +kernel
theorem dX2_list_34 : decode cX2_list 34 = .ok (.iload_n 2, 1) := by decide +kernel
theorem dX2_list_35 : decode cX2_list 35 = .ok (.iload_n 3, 1) := by decide +kernel
theorem dX2_list_36 : decode cX2_list 36 = .ok (.invokevirtual 39, 3) := by decide +kernel
theorem dX2_list_39 : decode cX2_list 39 = .ok (.iconst 1, 1) := by decide +kernel
theorem dX2_list_40 : decode cX2_list 40 = .ok (.if_icmp .ne 64, 3) := by decide +kernel
theorem dX2_list_43 : decode cX2_list 43 = .ok (.aload_n 0, 1) := by decide +kernel
theorem dX2_list_44 : decode cX2_list 44 = .ok (.getfield 24, 3) := by decide +kernel
theorem dX2_list_47 : decode cX2_list 47 = .ok (.bipush 12, 2) := by decide +kernel
theorem dX2_list_49 : decode cX2_list 49 = .ok (.if_icmp .ge 55, 3) := by decide +kernel
theorem dX2_list_52 : decode cX2_list 52 = .ok (.aload_n 0, 1) := by decide +kernel
theorem dX2_list_53 : decode cX2_list 53 = .ok (.getfield 9, 3) := by decide +kernel
theorem dX2_list_56 : decode cX2_list 56 = .ok (.aload_n 0, 1) := by decide +kernel
theorem dX2_list_57 : decode cX2_list 57 = .ok (.getfield 24, 3) := by decide +kernel
theorem dX2_list_60 : decode cX2_list 60 = .ok (.iload_n 2, 1) := by decide +kernel
theorem dX2_list_61 : decode cX2_list 61 = .ok (.iastore, 1) := by decide +kernel
theorem dX2_list_62 : decode cX2_list 62 = .ok (.aload_n 0, 1) := by decide +kernel
theorem dX2_list_63 : decode cX2_list 63 = .ok (.getfield 15, 3) := by decide +kernel
theorem dX2_list_66 : decode cX2_list 66 = .ok (.aload_n 0, 1) := by decide +kernel
theorem dX2_list_67 : decode cX2_list 67 = .ok (.getfield 24, 3) := by decide +kernel
theorem dX2_list_70 : decode cX2_list 70 = .ok (.iload_n 3, 1) := by decide +kernel
theorem dX2_list_71 : decode cX2_list 71 = .ok (.iastore, 1) := by decide +kernel
theorem dX2_list_72 : decode cX2_list 72 = .ok (.aload_n 0, 1) := by decide +kernel
theorem dX2_list_73 : decode cX2_list 73 = .ok (.getfield 18, 3) := by decide +kernel
theorem dX2_list_76 : decode cX2_list 76 = .ok (.aload_n 0, 1) := by decide +kernel
theorem dX2_list_77 : decode cX2_list 77 = .ok (.getfield 24, 3) := by decide +kernel
theorem dX2_list_80 : decode cX2_list 80 = .ok (.aload_n 1, 1) := by decide +kernel
theorem dX2_list_81 : decode cX2_list 81 = .ok (.getfield 43, 3) := by decide +kernel
theorem dX2_list_84 : decode cX2_list 84 = .ok (.iload_n 2, 1) := by decide +kernel
theorem dX2_list_85 : decode cX2_list 85 = .ok (.iaload, 1) := by decide +kernel
theorem dX2_list_86 : decode cX2_list 86 = .ok (.aload_n 1, 1) := by decide +kernel
theorem dX2_list_87 : decode cX2_list 87 = .ok (.getfield 43, 3) := by decide +kernel
theorem dX2_list_90 : decode cX2_list 90 = .ok (.iload_n 3, 1) := by decide +kernel
theorem dX2_list_91 : decode cX2_list 91 = .ok (.iaload, 1) := by decide +kernel
theorem dX2_list_92 : decode cX2_list 92 = .ok (.ior, 1) := by decide +kernel
theorem dX2_list_93 : decode cX2_list 93 = .ok (.iastore, 1) := by decide +kernel
theorem dX2_list_94 : decode cX2_list 94 = .ok (.aload_n 0, 1) := by decide +kernel
theorem dX2_list_95 : decode cX2_list 95 = .ok (.dup, 1) := by decide +kernel
theorem dX2_list_96 : decode cX2_list 96 = .ok (.getfield 24, 3) := by decide +kernel
theorem dX2_list_99 : decode cX2_list 99 = .ok (.iconst 1, 1) := by decide +kernel
theorem dX2_list_100 : decode cX2_list 100 = .ok (.iadd, 1) := by decide +kernel
theorem dX2_list_101 : decode cX2_list 101 = .ok (.putfield 24, 3) := by decide +kernel
theorem dX2_list_104 : decode cX2_list 104 = .ok (.iinc 3 1, 3) := by decide +kernel
theorem dX2_list_107 : decode cX2_list 107 = .ok (.goto (-85), 3) := by decide +kernel
theorem dX2_list_110 : decode cX2_list 110 = .ok (.iinc 2 1, 3) := by decide +kernel
theorem dX2_list_113 : decode cX2_list 113 = .ok (.goto (-106), 3) := by decide +kernel
theorem dX2_list_116 : decode cX2_list 116 = .ok (.return_, 1) := by decide +kernel
theorem dX2_sitInTurn_0 : decode cX2_sitInTurn 0 = .ok (.iconst 0, 1) := by decide +kernel
theorem dX2_sitInTurn_1 : decode cX2_sitInTurn 1 = .ok (.istore_n 2, 1) := by decide +kernel
theorem dX2_sitInTurn_2 : decode cX2_sitInTurn 2 = .ok (.aload_n 1, 1) := by decide +kernel
theorem dX2_sitInTurn_3 : decode cX2_sitInTurn 3 = .ok (.invokevirtual 44, 3) := by decide +kernel
theorem dX2_sitInTurn_6 : decode cX2_sitInTurn 6 = .ok (.iconst 0, 1) := by decide +kernel
theorem dX2_sitInTurn_7 : decode cX2_sitInTurn 7 = .ok (.istore_n 3, 1) := by decide +kernel
theorem dX2_sitInTurn_8 : decode cX2_sitInTurn 8 = .ok (.iload_n 3, 1) := by decide +kernel
theorem dX2_sitInTurn_9 : decode cX2_sitInTurn 9 = .ok (.aload_n 0, 1) := by decide +kernel
theorem dX2_sitInTurn_10 : decode cX2_sitInTurn 10 = .ok (.getfield 24, 3) := by decide +kernel
theorem dX2_sitInTurn_13 : decode cX2_sitInTurn 13 = .ok (.if_icmp .ge 58, 3) := by decide +kernel
theorem dX2_sitInTurn_16 : decode cX2_sitInTurn 16 = .ok (.aload_n 1, 1) := by decide +kernel
theorem dX2_sitInTurn_17 : decode cX2_sitInTurn 17 = .ok (.aload_n 0, 1) := by decide +kernel
theorem dX2_sitInTurn_18 : decode cX2_sitInTurn 18 = .ok (.getfield 9, 3) := by decide +kernel
theorem dX2_sitInTurn_21 : decode cX2_sitInTurn 21 = .ok (.iload_n 3, 1) := by decide +kernel
theorem dX2_sitInTurn_22 : decode cX2_sitInTurn 22 = .ok (.iaload, 1) := by decide +kernel
theorem dX2_sitInTurn_23 : decode cX2_sitInTurn 23 = .ok (.invokevirtual 49, 3) := by decide +kernel
theorem dX2_sitInTurn_26 : decode cX2_sitInTurn 26 = .ok (.ifCond .eq 39, 3) := by decide +kernel
theorem dX2_sitInTurn_29 : decode cX2_sitInTurn 29 = .ok (.aload_n 1, 1) := by decide +kernel
theorem dX2_sitInTurn_30 : decode cX2_sitInTurn 30 = .ok (.aload_n 0, 1) := by decide +kernel
theorem dX2_sitInTurn_31 : decode cX2_sitInTurn 31 = .ok (.getfield 15, 3) := by decide +kernel
theorem dX2_sitInTurn_34 : decode cX2_sitInTurn 34 = .ok (.iload_n 3, 1) := by decide +kernel
theorem dX2_sitInTurn_35 : decode cX2_sitInTurn 35 = .ok (.iaload, 1) := by decide +kernel
theorem dX2_sitInTurn_36 : decode cX2_sitInTurn 36 = .ok (.invokevirtual 49, 3) := by decide +kernel
theorem dX2_sitInTurn_39 : decode cX2_sitInTurn 39 = .ok (.ifCond .eq 26, 3) := by decide +kernel
theorem dX2_sitInTurn_42 : decode cX2_sitInTurn 42 = .ok (.aload_n 1, 1) := by decide +kernel
theorem dX2_sitInTurn_43 : decode cX2_sitInTurn 43 = .ok (.aload_n 0, 1) := by decide +kernel
theorem dX2_sitInTurn_44 : decode cX2_sitInTurn 44 = .ok (.getfield 9, 3) := by decide +kernel
theorem dX2_sitInTurn_47 : decode cX2_sitInTurn 47 = .ok (.iload_n 3, 1) := by decide +kernel
theorem dX2_sitInTurn_48 : decode cX2_sitInTurn 48 = .ok (.iaload, 1) := by decide +kernel
theorem dX2_sitInTurn_49 : decode cX2_sitInTurn 49 = .ok (.invokevirtual 53, 3) := by decide +kernel
theorem dX2_sitInTurn_52 : decode cX2_sitInTurn 52 = .ok (.aload_n 1, 1) := by decide +kernel
theorem dX2_sitInTurn_53 : decode cX2_sitInTurn 53 = .ok (.aload_n 0, 1) := by decide +kernel
theorem dX2_sitInTurn_54 : decode cX2_sitInTurn 54 = .ok (.getfield 15, 3) := by decide +kernel
theorem dX2_sitInTurn_57 : decode cX2_sitInTurn 57 = .ok (.iload_n 3, 1) := by decide +kernel
theorem dX2_sitInTurn_58 : decode cX2_sitInTurn 58 = .ok (.iaload, 1) := by decide +kernel
theorem dX2_sitInTurn_59 : decode cX2_sitInTurn 59 = .ok (.invokevirtual 53, 3) := by decide +kernel
theorem dX2_sitInTurn_62 : decode cX2_sitInTurn 62 = .ok (.iinc 2 1, 3) := by decide +kernel
theorem dX2_sitInTurn_65 : decode cX2_sitInTurn 65 = .ok (.iinc 3 1, 3) := by decide +kernel
theorem dX2_sitInTurn_68 : decode cX2_sitInTurn 68 = .ok (.goto (-60), 3) := by decide +kernel
theorem dX2_sitInTurn_71 : decode cX2_sitInTurn 71 = .ok (.iload_n 2, 1) := by decide +kernel
theorem dX2_sitInTurn_72 : decode cX2_sitInTurn 72 = .ok (.ireturn, 1) := by decide +kernel
theorem dX2_mostAtOnce_0 : decode cX2_mostAtOnce 0 = .ok (.iconst 0, 1) := by decide +kernel
theorem dX2_mostAtOnce_1 : decode cX2_mostAtOnce 1 = .ok (.istore_n 2, 1) := by decide +kernel
theorem dX2_mostAtOnce_2 : decode cX2_mostAtOnce 2 = .ok (.iload_n 2, 1) := by decide +kernel
theorem dX2_mostAtOnce_3 : decode cX2_mostAtOnce 3 = .ok (.aload_n 0, 1) := by decide +kernel
theorem dX2_mostAtOnce_4 : decode cX2_mostAtOnce 4 = .ok (.getfield 24, 3) := by decide +kernel
theorem dX2_mostAtOnce_7 : decode cX2_mostAtOnce 7 = .ok (.if_icmp .ge 75, 3) := by decide +kernel
theorem dX2_mostAtOnce_10 : decode cX2_mostAtOnce 10 = .ok (.aload_n 0, 1) := by decide +kernel
theorem dX2_mostAtOnce_11 : decode cX2_mostAtOnce 11 = .ok (.getfield 21, 3) := by decide +kernel
theorem dX2_mostAtOnce_14 : decode cX2_mostAtOnce 14 = .ok (.iload_n 2, 1) := by decide +kernel
theorem dX2_mostAtOnce_15 : decode cX2_mostAtOnce 15 = .ok (.iconst 0, 1) := by decide +kernel
theorem dX2_mostAtOnce_16 : decode cX2_mostAtOnce 16 = .ok (.iastore, 1) := by decide +kernel
theorem dX2_mostAtOnce_17 : decode cX2_mostAtOnce 17 = .ok (.iconst 0, 1) := by decide +kernel
theorem dX2_mostAtOnce_18 : decode cX2_mostAtOnce 18 = .ok (.istore_n 3, 1) := by decide +kernel
theorem dX2_mostAtOnce_19 : decode cX2_mostAtOnce 19 = .ok (.iload_n 3, 1) := by decide +kernel
theorem dX2_mostAtOnce_20 : decode cX2_mostAtOnce 20 = .ok (.aload_n 0, 1) := by decide +kernel
theorem dX2_mostAtOnce_21 : decode cX2_mostAtOnce 21 = .ok (.getfield 24, 3) := by decide +kernel
theorem dX2_mostAtOnce_24 : decode cX2_mostAtOnce 24 = .ok (.if_icmp .ge 52, 3) := by decide +kernel
theorem dX2_mostAtOnce_27 : decode cX2_mostAtOnce 27 = .ok (.iconst 1, 1) := by decide +kernel
theorem dX2_mostAtOnce_28 : decode cX2_mostAtOnce 28 = .ok (.aload_n 0, 1) := by decide +kernel
theorem dX2_mostAtOnce_29 : decode cX2_mostAtOnce 29 = .ok (.getfield 9, 3) := by decide +kernel
theorem dX2_mostAtOnce_32 : decode cX2_mostAtOnce 32 = .ok (.iload_n 3, 1) := by decide +kernel
theorem dX2_mostAtOnce_33 : decode cX2_mostAtOnce 33 = .ok (.iaload, 1) := by decide +kernel
theorem dX2_mostAtOnce_34 : decode cX2_mostAtOnce 34 = .ok (.ishl, 1) := by decide +kernel
theorem dX2_mostAtOnce_35 : decode cX2_mostAtOnce 35 = .ok (.iconst 1, 1) := by decide +kernel
theorem dX2_mostAtOnce_36 : decode cX2_mostAtOnce 36 = .ok (.aload_n 0, 1) := by decide +kernel
theorem dX2_mostAtOnce_37 : decode cX2_mostAtOnce 37 = .ok (.getfield 15, 3) := by decide +kernel
theorem dX2_mostAtOnce_40 : decode cX2_mostAtOnce 40 = .ok (.iload_n 3, 1) := by decide +kernel
theorem dX2_mostAtOnce_41 : decode cX2_mostAtOnce 41 = .ok (.iaload, 1) := by decide +kernel
theorem dX2_mostAtOnce_42 : decode cX2_mostAtOnce 42 = .ok (.ishl, 1) := by decide +kernel
theorem dX2_mostAtOnce_43 : decode cX2_mostAtOnce 43 = .ok (.ior, 1) := by decide +kernel
theorem dX2_mostAtOnce_44 : decode cX2_mostAtOnce 44 = .ok (.istore 4, 2) := by decide +kernel
theorem dX2_mostAtOnce_46 : decode cX2_mostAtOnce 46 = .ok (.aload_n 0, 1) := by decide +kernel
theorem dX2_mostAtOnce_47 : decode cX2_mostAtOnce 47 = .ok (.getfield 18, 3) := by decide +kernel
theorem dX2_mostAtOnce_50 : decode cX2_mostAtOnce 50 = .ok (.iload_n 2, 1) := by decide +kernel
theorem dX2_mostAtOnce_51 : decode cX2_mostAtOnce 51 = .ok (.iaload, 1) := by decide +kernel
theorem dX2_mostAtOnce_52 : decode cX2_mostAtOnce 52 = .ok (.iload 4, 2) := by decide +kernel
theorem dX2_mostAtOnce_54 : decode cX2_mostAtOnce 54 = .ok (.iand, 1) := by decide +kernel
theorem dX2_mostAtOnce_55 : decode cX2_mostAtOnce 55 = .ok (.ifCond .eq 15, 3) := by decide +kernel
theorem dX2_mostAtOnce_58 : decode cX2_mostAtOnce 58 = .ok (.aload_n 0, 1) := by decide +kernel
theorem dX2_mostAtOnce_59 : decode cX2_mostAtOnce 59 = .ok (.getfield 21, 3) := by decide +kernel
theorem dX2_mostAtOnce_62 : decode cX2_mostAtOnce 62 = .ok (.iload_n 2, 1) := by decide +kernel
theorem dX2_mostAtOnce_63 : decode cX2_mostAtOnce 63 = .ok (.dup2, 1) := by decide +kernel
theorem dX2_mostAtOnce_64 : decode cX2_mostAtOnce 64 = .ok (.iaload, 1) := by decide +kernel
theorem dX2_mostAtOnce_65 : decode cX2_mostAtOnce 65 = .ok (.iconst 1, 1) := by decide +kernel
theorem dX2_mostAtOnce_66 : decode cX2_mostAtOnce 66 = .ok (.iload_n 3, 1) := by decide +kernel
theorem dX2_mostAtOnce_67 : decode cX2_mostAtOnce 67 = .ok (.ishl, 1) := by decide +kernel
theorem dX2_mostAtOnce_68 : decode cX2_mostAtOnce 68 = .ok (.ior, 1) := by decide +kernel
theorem dX2_mostAtOnce_69 : decode cX2_mostAtOnce 69 = .ok (.iastore, 1) := by decide +kernel
theorem dX2_mostAtOnce_70 : decode cX2_mostAtOnce 70 = .ok (.iinc 3 1, 3) := by decide +kernel
theorem dX2_mostAtOnce_73 : decode cX2_mostAtOnce 73 = .ok (.goto (-54), 3) := by decide +kernel
theorem dX2_mostAtOnce_76 : decode cX2_mostAtOnce 76 = .ok (.iinc 2 1, 3) := by decide +kernel
theorem dX2_mostAtOnce_79 : decode cX2_mostAtOnce 79 = .ok (.goto (-77), 3) := by decide +kernel
theorem dX2_mostAtOnce_82 : decode cX2_mostAtOnce 82 = .ok (.aload_n 1, 1) := by decide +kernel
theorem dX2_mostAtOnce_83 : decode cX2_mostAtOnce 83 = .ok (.aload_n 0, 1) := by decide +kernel
theorem dX2_mostAtOnce_84 : decode cX2_mostAtOnce 84 = .ok (.getfield 21, 3) := by decide +kernel
theorem dX2_mostAtOnce_87 : decode cX2_mostAtOnce 87 = .ok (.aload_n 0, 1) := by decide +kernel
theorem dX2_mostAtOnce_88 : decode cX2_mostAtOnce 88 = .ok (.getfield 24, 3) := by decide +kernel
theorem dX2_mostAtOnce_91 : decode cX2_mostAtOnce 91 = .ok (.iconst 1, 1) := by decide +kernel
theorem dX2_mostAtOnce_92 : decode cX2_mostAtOnce 92 = .ok (.aload_n 0, 1) := by decide +kernel
theorem dX2_mostAtOnce_93 : decode cX2_mostAtOnce 93 = .ok (.getfield 24, 3) := by decide +kernel
theorem dX2_mostAtOnce_96 : decode cX2_mostAtOnce 96 = .ok (.ishl, 1) := by decide +kernel
theorem dX2_mostAtOnce_97 : decode cX2_mostAtOnce 97 = .ok (.iconst 1, 1) := by decide +kernel
theorem dX2_mostAtOnce_98 : decode cX2_mostAtOnce 98 = .ok (.isub, 1) := by decide +kernel
theorem dX2_mostAtOnce_99 : decode cX2_mostAtOnce 99 = .ok (.invokevirtual 57, 3) := by decide +kernel
theorem dX2_mostAtOnce_102 : decode cX2_mostAtOnce 102 = .ok (.aload_n 1, 1) := by decide +kernel
theorem dX2_mostAtOnce_103 : decode cX2_mostAtOnce 103 = .ok (.invokevirtual 63, 3) := by decide +kernel
theorem dX2_mostAtOnce_106 : decode cX2_mostAtOnce 106 = .ok (.ireturn, 1) := by decide +kernel
theorem dX3_init_0 : decode cX3_init 0 = .ok (.aload_n 0, 1) := by decide +kernel
theorem dX3_init_1 : decode cX3_init 1 = .ok (.invokespecial 3, 3) := by decide +kernel
theorem dX3_init_4 : decode cX3_init 4 = .ok (.aload_n 0, 1) := by decide +kernel
theorem dX3_init_5 : decode cX3_init 5 = .ok (.sipush 201, 3) := by decide +kernel
theorem dX3_init_8 : decode cX3_init 8 = .ok (.newarray .int, 2) := by decide +kernel
theorem dX3_init_10 : decode cX3_init 10 = .ok (.putfield 9, 3) := by decide +kernel
theorem dX3_init_13 : decode cX3_init 13 = .ok (.iconst 3, 1) := by decide +kernel
theorem dX3_init_14 : decode cX3_init 14 = .ok (.istore_n 1, 1) := by decide +kernel
theorem dX3_init_15 : decode cX3_init 15 = .ok (.iload_n 1, 1) := by decide +kernel
theorem dX3_init_16 : decode cX3_init 16 = .ok (.sipush 200, 3) := by decide +kernel
theorem dX3_init_19 : decode cX3_init 19 = .ok (.if_icmp .gt 40, 3) := by decide +kernel
theorem dX3_init_22 : decode cX3_init 22 = .ok (.iload_n 1, 1) := by decide +kernel
theorem dX3_init_23 : decode cX3_init 23 = .ok (.iconst 1, 1) := by decide +kernel
theorem dX3_init_24 : decode cX3_init 24 = .ok (.isub, 1) := by decide +kernel
theorem dX3_init_25 : decode cX3_init 25 = .ok (.iconst 2, 1) := by decide +kernel
theorem dX3_init_26 : decode cX3_init 26 = .ok (.idiv, 1) := by decide +kernel
theorem dX3_init_27 : decode cX3_init 27 = .ok (.istore_n 2, 1) := by decide +kernel
theorem dX3_init_28 : decode cX3_init 28 = .ok (.aload_n 0, 1) := by decide +kernel
theorem dX3_init_29 : decode cX3_init 29 = .ok (.getfield 9, 3) := by decide +kernel
theorem dX3_init_32 : decode cX3_init 32 = .ok (.iload_n 1, 1) := by decide +kernel
theorem dX3_init_33 : decode cX3_init 33 = .ok (.iconst 1, 1) := by decide +kernel
theorem dX3_init_34 : decode cX3_init 34 = .ok (.aload_n 0, 1) := by decide +kernel
theorem dX3_init_35 : decode cX3_init 35 = .ok (.getfield 9, 3) := by decide +kernel
theorem dX3_init_38 : decode cX3_init 38 = .ok (.iload_n 2, 1) := by decide +kernel
theorem dX3_init_39 : decode cX3_init 39 = .ok (.iaload, 1) := by decide +kernel
theorem dX3_init_40 : decode cX3_init 40 = .ok (.iadd, 1) := by decide +kernel
theorem dX3_init_41 : decode cX3_init 41 = .ok (.aload_n 0, 1) := by decide +kernel
theorem dX3_init_42 : decode cX3_init 42 = .ok (.getfield 9, 3) := by decide +kernel
theorem dX3_init_45 : decode cX3_init 45 = .ok (.iload_n 1, 1) := by decide +kernel
theorem dX3_init_46 : decode cX3_init 46 = .ok (.iconst 1, 1) := by decide +kernel
theorem dX3_init_47 : decode cX3_init 47 = .ok (.isub, 1) := by decide +kernel
theorem dX3_init_48 : decode cX3_init 48 = .ok (.iload_n 2, 1) := by decide +kernel
theorem dX3_init_49 : decode cX3_init 49 = .ok (.isub, 1) := by decide +kernel
theorem dX3_init_50 : decode cX3_init 50 = .ok (.iaload, 1) := by decide +kernel
theorem dX3_init_51 : decode cX3_init 51 = .ok (.iadd, 1) := by decide +kernel
theorem dX3_init_52 : decode cX3_init 52 = .ok (.iastore, 1) := by decide +kernel
theorem dX3_init_53 : decode cX3_init 53 = .ok (.iinc 1 1, 3) := by decide +kernel
theorem dX3_init_56 : decode cX3_init 56 = .ok (.goto (-41), 3) := by decide +kernel
theorem dX3_init_59 : decode cX3_init 59 = .ok (.return_, 1) := by decide +kernel
theorem dX3_comeIn_0 : decode cX3_comeIn 0 = .ok (.iconst 1, 1) := by decide +kernel
theorem dX3_comeIn_1 : decode cX3_comeIn 1 = .ok (.aload_n 0, 1) := by decide +kernel
theorem dX3_comeIn_2 : decode cX3_comeIn 2 = .ok (.iload_n 2, 1) := by decide +kernel
theorem dX3_comeIn_3 : decode cX3_comeIn 3 = .ok (.invokevirtual 15, 3) := by decide +kernel
theorem dX3_comeIn_6 : decode cX3_comeIn 6 = .ok (.iadd, 1) := by decide +kernel
theorem dX3_comeIn_7 : decode cX3_comeIn 7 = .ok (.aload_n 0, 1) := by decide +kernel
theorem dX3_comeIn_8 : decode cX3_comeIn 8 = .ok (.iload_n 1, 1) := by decide +kernel
theorem dX3_comeIn_9 : decode cX3_comeIn 9 = .ok (.iconst 1, 1) := by decide +kernel
theorem dX3_comeIn_10 : decode cX3_comeIn 10 = .ok (.isub, 1) := by decide +kernel
theorem dX3_comeIn_11 : decode cX3_comeIn 11 = .ok (.iload_n 2, 1) := by decide +kernel
theorem dX3_comeIn_12 : decode cX3_comeIn 12 = .ok (.isub, 1) := by decide +kernel
theorem dX3_comeIn_13 : decode cX3_comeIn 13 = .ok (.invokevirtual 15, 3) := by decide +kernel
theorem dX3_comeIn_16 : decode cX3_comeIn 16 = .ok (.iadd, 1) := by decide +kernel
theorem dX3_comeIn_17 : decode cX3_comeIn 17 = .ok (.ireturn, 1) := by decide +kernel
theorem dX3_beyond_0 : decode cX3_beyond 0 = .ok (.iload_n 1, 1) := by decide +kernel
theorem dX3_beyond_1 : decode cX3_beyond 1 = .ok (.iconst 2, 1) := by decide +kernel
theorem dX3_beyond_2 : decode cX3_beyond 2 = .ok (.if_icmp .ge 7, 3) := by decide +kernel
theorem dX3_beyond_5 : decode cX3_beyond 5 = .ok (.iconst 0, 1) := by decide +kernel
theorem dX3_beyond_6 : decode cX3_beyond 6 = .ok (.goto 13, 3) := by decide +kernel
theorem dX3_beyond_9 : decode cX3_beyond 9 = .ok (.iconst 1, 1) := by decide +kernel
theorem dX3_beyond_10 : decode cX3_beyond 10 = .ok (.aload_n 0, 1) := by decide +kernel
theorem dX3_beyond_11 : decode cX3_beyond 11 = .ok (.getfield 9, 3) := by decide +kernel
theorem dX3_beyond_14 : decode cX3_beyond 14 = .ok (.iload_n 1, 1) := by decide +kernel
theorem dX3_beyond_15 : decode cX3_beyond 15 = .ok (.iconst 1, 1) := by decide +kernel
theorem dX3_beyond_16 : decode cX3_beyond 16 = .ok (.isub, 1) := by decide +kernel
theorem dX3_beyond_17 : decode cX3_beyond 17 = .ok (.iaload, 1) := by decide +kernel
theorem dX3_beyond_18 : decode cX3_beyond 18 = .ok (.iadd, 1) := by decide +kernel
theorem dX3_beyond_19 : decode cX3_beyond 19 = .ok (.ireturn, 1) := by decide +kernel
theorem dX4_init_0 : decode cX4_init 0 = .ok (.aload_n 0, 1) := by decide +kernel
theorem dX4_init_1 : decode cX4_init 1 = .ok (.invokespecial 3, 3) := by decide +kernel
theorem dX4_init_4 : decode cX4_init 4 = .ok (.aload_n 0, 1) := by decide +kernel
theorem dX4_init_5 : decode cX4_init 5 = .ok (.sipush 4096, 3) := by decide +kernel
theorem dX4_init_8 : decode cX4_init 8 = .ok (.newarray .int, 2) := by decide +kernel
theorem dX4_init_10 : decode cX4_init 10 = .ok (.putfield 9, 3) := by decide +kernel
theorem dX4_init_13 : decode cX4_init 13 = .ok (.aload_n 0, 1) := by decide +kernel
theorem dX4_init_14 : decode cX4_init 14 = .ok (.sipush 4096, 3) := by decide +kernel
theorem dX4_init_17 : decode cX4_init 17 = .ok (.newarray .int, 2) := by decide +kernel
theorem dX4_init_19 : decode cX4_init 19 = .ok (.putfield 15, 3) := by decide +kernel
theorem dX4_init_22 : decode cX4_init 22 = .ok (.return_, 1) := by decide +kernel
theorem dX4_play_0 : decode cX4_play 0 = .ok (.aload_n 0, 1) := by decide +kernel
theorem dX4_play_1 : decode cX4_play 1 = .ok (.getfield 18, 3) := by decide +kernel
theorem dX4_play_4 : decode cX4_play 4 = .ok (.ifCond .eq 4, 3) := by decide +kernel
theorem dX4_play_7 : decode cX4_play 7 = .ok (.return_, 1) := by decide +kernel
theorem dX4_play_8 : decode cX4_play 8 = .ok (.aload_n 2, 1) := by decide +kernel
theorem dX4_play_9 : decode cX4_play 9 = .ok (.aload_n 1, 1) := by decide +kernel
theorem dX4_play_10 : decode cX4_play 10 = .ok (.getfield 22, 3) := by decide +kernel
theorem dX4_play_13 : decode cX4_play 13 = .ok (.aload_n 1, 1) := by decide +kernel
theorem dX4_play_14 : decode cX4_play 14 = .ok (.getfield 27, 3) := by decide +kernel
theorem dX4_play_17 : decode cX4_play 17 = .ok (.getfield 31, 3) := by decide +kernel
theorem dX4_play_20 : decode cX4_play 20 = .ok (.aload_n 1, 1) := by decide +kernel
theorem dX4_play_21 : decode cX4_play 21 = .ok (.getfield 27, 3) := by decide +kernel
theorem dX4_play_24 : decode cX4_play 24 = .ok (.invokevirtual 37, 3) := by decide +kernel
theorem dX4_play_27 : decode cX4_play 27 = .ok (.invokevirtual 41, 3) := by decide +kernel
theorem dX4_play_30 : decode cX4_play 30 = .ok (.aload_n 2, 1) := by decide +kernel
theorem dX4_play_31 : decode cX4_play 31 = .ok (.getfield 47, 3) := by decide +kernel
theorem dX4_play_34 : decode cX4_play 34 = .ok (.iconst 1, 1) := by decide +kernel
theorem dX4_play_35 : decode cX4_play 35 = .ok (.isub, 1) := by decide +kernel
theorem dX4_play_36 : decode cX4_play 36 = .ok (.istore_n 3, 1) := by decide +kernel
theorem dX4_play_37 : decode cX4_play 37 = .ok (.iload_n 3, 1) := by decide +kernel
theorem dX4_play_38 : decode cX4_play 38 = .ok (.ifCond .lt 29, 3) := by decide +kernel
theorem dX4_play_41 : decode cX4_play 41 = .ok (.aload_n 0, 1) := by decide +kernel
theorem dX4_play_42 : decode cX4_play 42 = .ok (.aload_n 2, 1) := by decide +kernel
theorem dX4_play_43 : decode cX4_play 43 = .ok (.getfield 50, 3) := by decide +kernel
theorem dX4_play_46 : decode cX4_play 46 = .ok (.iload_n 3, 1) := by decide +kernel
theorem dX4_play_47 : decode cX4_play 47 = .ok (.iaload, 1) := by decide +kernel
theorem dX4_play_48 : decode cX4_play 48 = .ok (.aload_n 2, 1) := by decide +kernel
theorem dX4_play_49 : decode cX4_play 49 = .ok (.getfield 53, 3) := by decide +kernel
theorem dX4_play_52 : decode cX4_play 52 = .ok (.iload_n 3, 1) := by decide +kernel
theorem dX4_play_53 : decode cX4_play 53 = .ok (.iaload, 1) := by decide +kernel
theorem dX4_play_54 : decode cX4_play 54 = .ok (.aload_n 2, 1) := by decide +kernel
theorem dX4_play_55 : decode cX4_play 55 = .ok (.getfield 56, 3) := by decide +kernel
theorem dX4_play_58 : decode cX4_play 58 = .ok (.invokevirtual 59, 3) := by decide +kernel
theorem dX4_play_61 : decode cX4_play 61 = .ok (.iinc 3 (-1), 3) := by decide +kernel
theorem dX4_play_64 : decode cX4_play 64 = .ok (.goto (-27), 3) := by decide +kernel
theorem dX4_play_67 : decode cX4_play 67 = .ok (.aload_n 0, 1) := by decide +kernel
theorem dX4_play_68 : decode cX4_play 68 = .ok (.iconst 1, 1) := by decide +kernel
theorem dX4_play_69 : decode cX4_play 69 = .ok (.putfield 18, 3) := by decide +kernel
theorem dX4_play_72 : decode cX4_play 72 = .ok (.return_, 1) := by decide +kernel
theorem dX4_settle_0 : decode cX4_settle 0 = .ok (.iload_n 1, 1) := by decide +kernel
theorem dX4_settle_1 : decode cX4_settle 1 = .ok (.invokestatic 63, 3) := by decide +kernel
theorem dX4_settle_4 : decode cX4_settle 4 = .ok (.istore 4, 2) := by decide +kernel
theorem dX4_settle_6 : decode cX4_settle 6 = .ok (.iload_n 2, 1) := by decide +kernel
theorem dX4_settle_7 : decode cX4_settle 7 = .ok (.ifCond .ne 8, 3) := by decide +kernel
theorem dX4_settle_10 : decode cX4_settle 10 = .ok (.iload 4, 2) := by decide +kernel
theorem dX4_settle_12 : decode cX4_settle 12 = .ok (.goto 4, 3) := by decide +kernel
theorem dX4_settle_15 : decode cX4_settle 15 = .ok (.iconst 0, 1) := by decide +kernel
theorem dX4_settle_16 : decode cX4_settle 16 = .ok (.istore 5, 2) := by decide +kernel
theorem dX4_settle_18 : decode cX4_settle 18 = .ok (.iload_n 2, 1) := by decide +kernel
theorem dX4_settle_19 : decode cX4_settle 19 = .ok (.ifCond .ne 8, 3) := by decide +kernel
theorem dX4_settle_22 : decode cX4_settle 22 = .ok (.iload 4, 2) := by decide +kernel
theorem dX4_settle_24 : decode cX4_settle 24 = .ok (.goto 5, 3) := by decide +kernel
theorem dX4_settle_27 : decode cX4_settle 27 = .ok (.bipush 12, 2) := by decide +kernel
theorem dX4_settle_29 : decode cX4_settle 29 = .ok (.istore 6, 2) := by decide +kernel
theorem dX4_settle_31 : decode cX4_settle 31 = .ok (.iconst 0, 1) := by decide +kernel
theorem dX4_settle_32 : decode cX4_settle 32 = .ok (.istore 7, 2) := by decide +kernel
theorem dX4_settle_34 : decode cX4_settle 34 = .ok (.iload 7, 2) := by decide +kernel
theorem dX4_settle_36 : decode cX4_settle 36 = .ok (.iload_n 3, 1) := by decide +kernel
theorem dX4_settle_37 : decode cX4_settle 37 = .ok (.if_icmp .ge 54, 3) := by decide +kernel
theorem dX4_settle_40 : decode cX4_settle 40 = .ok (.iload_n 2, 1) := by decide +kernel
theorem dX4_settle_41 : decode cX4_settle 41 = .ok (.iload 7, 2) := by decide +kernel
theorem dX4_settle_43 : decode cX4_settle 43 = .ok (.ishr, 1) := by decide +kernel
theorem dX4_settle_44 : decode cX4_settle 44 = .ok (.iconst 1, 1) := by decide +kernel
theorem dX4_settle_45 : decode cX4_settle 45 = .ok (.iand, 1) := by decide +kernel
theorem dX4_settle_46 : decode cX4_settle 46 = .ok (.ifCond .eq 39, 3) := by decide +kernel
theorem dX4_settle_49 : decode cX4_settle 49 = .ok (.iload 5, 2) := by decide +kernel
theorem dX4_settle_51 : decode cX4_settle 51 = .ok (.aload_n 0, 1) := by decide +kernel
theorem dX4_settle_52 : decode cX4_settle 52 = .ok (.getfield 15, 3) := by decide +kernel
theorem dX4_settle_55 : decode cX4_settle 55 = .ok (.iload_n 1, 1) := by decide +kernel
theorem dX4_settle_56 : decode cX4_settle 56 = .ok (.iconst 1, 1) := by decide +kernel
theorem dX4_settle_57 : decode cX4_settle 57 = .ok (.iload 7, 2) := by decide +kernel
theorem dX4_settle_59 : decode cX4_settle 59 = .ok (.ishl, 1) := by decide +kernel
theorem dX4_settle_60 : decode cX4_settle 60 = .ok (.ior, 1) := by decide +kernel
theorem dX4_settle_61 : decode cX4_settle 61 = .ok (.iaload, 1) := by decide +kernel
theorem dX4_settle_62 : decode cX4_settle 62 = .ok (.invokestatic 69, 3) := by decide +kernel
theorem dX4_settle_65 : decode cX4_settle 65 = .ok (.istore 5, 2) := by decide +kernel
theorem dX4_settle_67 : decode cX4_settle 67 = .ok (.iload 6, 2) := by decide +kernel
theorem dX4_settle_69 : decode cX4_settle 69 = .ok (.aload_n 0, 1) := by decide +kernel
theorem dX4_settle_70 : decode cX4_settle 70 = .ok (.getfield 9, 3) := by decide +kernel
theorem dX4_settle_73 : decode cX4_settle 73 = .ok (.iload_n 1, 1) := by decide +kernel
theorem dX4_settle_74 : decode cX4_settle 74 = .ok (.iconst 1, 1) := by decide +kernel
theorem dX4_settle_75 : decode cX4_settle 75 = .ok (.iload 7, 2) := by decide +kernel
theorem dX4_settle_77 : decode cX4_settle 77 = .ok (.ishl, 1) := by decide +kernel
theorem dX4_settle_78 : decode cX4_settle 78 = .ok (.ior, 1) := by decide +kernel
theorem dX4_settle_79 : decode cX4_settle 79 = .ok (.iaload, 1) := by decide +kernel
theorem dX4_settle_80 : decode cX4_settle 80 = .ok (.invokestatic 75, 3) := by decide +kernel
theorem dX4_settle_83 : decode cX4_settle 83 = .ok (.istore 6, 2) := by decide +kernel
theorem dX4_settle_85 : decode cX4_settle 85 = .ok (.iinc 7 1, 3) := by decide +kernel
theorem dX4_settle_88 : decode cX4_settle 88 = .ok (.goto (-54), 3) := by decide +kernel
theorem dX4_settle_91 : decode cX4_settle 91 = .ok (.aload_n 0, 1) := by decide +kernel
theorem dX4_settle_92 : decode cX4_settle 92 = .ok (.getfield 9, 3) := by decide +kernel
theorem dX4_settle_95 : decode cX4_settle 95 = .ok (.iload_n 1, 1) := by decide +kernel
theorem dX4_settle_96 : decode cX4_settle 96 = .ok (.iload 5, 2) := by decide +kernel
theorem dX4_settle_98 : decode cX4_settle 98 = .ok (.iastore, 1) := by decide +kernel
theorem dX4_settle_99 : decode cX4_settle 99 = .ok (.aload_n 0, 1) := by decide +kernel
theorem dX4_settle_100 : decode cX4_settle 100 = .ok (.getfield 15, 3) := by decide +kernel
theorem dX4_settle_103 : decode cX4_settle 103 = .ok (.iload_n 1, 1) := by decide +kernel
theorem dX4_settle_104 : decode cX4_settle 104 = .ok (.iload 6, 2) := by decide +kernel
theorem dX4_settle_106 : decode cX4_settle 106 = .ok (.iastore, 1) := by decide +kernel
theorem dX4_settle_107 : decode cX4_settle 107 = .ok (.return_, 1) := by decide +kernel
theorem dX4_result_0 : decode cX4_result 0 = .ok (.iload_n 2, 1) := by decide +kernel
theorem dX4_result_1 : decode cX4_result 1 = .ok (.ifCond .ne 12, 3) := by decide +kernel
theorem dX4_result_4 : decode cX4_result 4 = .ok (.aload_n 0, 1) := by decide +kernel
theorem dX4_result_5 : decode cX4_result 5 = .ok (.getfield 9, 3) := by decide +kernel
theorem dX4_result_8 : decode cX4_result 8 = .ok (.iload_n 1, 1) := by decide +kernel
theorem dX4_result_9 : decode cX4_result 9 = .ok (.iaload, 1) := by decide +kernel
theorem dX4_result_10 : decode cX4_result 10 = .ok (.goto 9, 3) := by decide +kernel
theorem dX4_result_13 : decode cX4_result 13 = .ok (.aload_n 0, 1) := by decide +kernel
theorem dX4_result_14 : decode cX4_result 14 = .ok (.getfield 15, 3) := by decide +kernel
theorem dX4_result_17 : decode cX4_result 17 = .ok (.iload_n 1, 1) := by decide +kernel
theorem dX4_result_18 : decode cX4_result 18 = .ok (.iaload, 1) := by decide +kernel
theorem dX4_result_19 : decode cX4_result 19 = .ok (.ireturn, 1) := by decide +kernel
theorem dX4_bestSeat_0 : decode cX4_bestSeat 0 = .ok (.aload_n 0, 1) := by decide +kernel
theorem dX4_bestSeat_1 : decode cX4_bestSeat 1 = .ok (.iload_n 1, 1) := by decide +kernel
theorem dX4_bestSeat_2 : decode cX4_bestSeat 2 = .ok (.iload_n 3, 1) := by decide +kernel
theorem dX4_bestSeat_3 : decode cX4_bestSeat 3 = .ok (.invokevirtual 78, 3) := by decide +kernel
theorem dX4_bestSeat_6 : decode cX4_bestSeat 6 = .ok (.istore 4, 2) := by decide +kernel
theorem dX4_bestSeat_8 : decode cX4_bestSeat 8 = .ok (.iconst 0, 1) := by decide +kernel
theorem dX4_bestSeat_9 : decode cX4_bestSeat 9 = .ok (.istore 5, 2) := by decide +kernel
theorem dX4_bestSeat_11 : decode cX4_bestSeat 11 = .ok (.iload 5, 2) := by decide +kernel
theorem dX4_bestSeat_13 : decode cX4_bestSeat 13 = .ok (.bipush 12, 2) := by decide +kernel
theorem dX4_bestSeat_15 : decode cX4_bestSeat 15 = .ok (.if_icmp .ge 39, 3) := by decide +kernel
theorem dX4_bestSeat_18 : decode cX4_bestSeat 18 = .ok (.iload_n 2, 1) := by decide +kernel
theorem dX4_bestSeat_19 : decode cX4_bestSeat 19 = .ok (.iload 5, 2) := by decide +kernel
theorem dX4_bestSeat_21 : decode cX4_bestSeat 21 = .ok (.ishr, 1) := by decide +kernel
theorem dX4_bestSeat_22 : decode cX4_bestSeat 22 = .ok (.iconst 1, 1) := by decide +kernel
theorem dX4_bestSeat_23 : decode cX4_bestSeat 23 = .ok (.iand, 1) := by decide +kernel
theorem dX4_bestSeat_24 : decode cX4_bestSeat 24 = .ok (.ifCond .eq 24, 3) := by decide +kernel
theorem dX4_bestSeat_27 : decode cX4_bestSeat 27 = .ok (.aload_n 0, 1) := by decide +kernel
theorem dX4_bestSeat_28 : decode cX4_bestSeat 28 = .ok (.iload_n 1, 1) := by decide +kernel
theorem dX4_bestSeat_29 : decode cX4_bestSeat 29 = .ok (.iconst 1, 1) := by decide +kernel
theorem dX4_bestSeat_30 : decode cX4_bestSeat 30 = .ok (.iload 5, 2) := by decide +kernel
theorem dX4_bestSeat_32 : decode cX4_bestSeat 32 = .ok (.ishl, 1) := by decide +kernel
theorem dX4_bestSeat_33 : decode cX4_bestSeat 33 = .ok (.ior, 1) := by decide +kernel
theorem dX4_bestSeat_34 : decode cX4_bestSeat 34 = .ok (.iconst 1, 1) := by decide +kernel
theorem dX4_bestSeat_35 : decode cX4_bestSeat 35 = .ok (.iload_n 3, 1) := by decide +kernel
theorem dX4_bestSeat_36 : decode cX4_bestSeat 36 = .ok (.isub, 1) := by decide +kernel
theorem dX4_bestSeat_37 : decode cX4_bestSeat 37 = .ok (.invokevirtual 78, 3) := by decide +kernel
theorem dX4_bestSeat_40 : decode cX4_bestSeat 40 = .ok (.iload 4, 2) := by decide +kernel
theorem dX4_bestSeat_42 : decode cX4_bestSeat 42 = .ok (.if_icmp .ne 6, 3) := by decide +kernel
theorem dX4_bestSeat_45 : decode cX4_bestSeat 45 = .ok (.iload 5, 2) := by decide +kernel
theorem dX4_bestSeat_47 : decode cX4_bestSeat 47 = .ok (.ireturn, 1) := by decide +kernel
theorem dX4_bestSeat_48 : decode cX4_bestSeat 48 = .ok (.iinc 5 1, 3) := by decide +kernel
theorem dX4_bestSeat_51 : decode cX4_bestSeat 51 = .ok (.goto (-40), 3) := by decide +kernel
theorem dX4_bestSeat_54 : decode cX4_bestSeat 54 = .ok (.bipush (-6), 2) := by decide +kernel
theorem dX4_bestSeat_56 : decode cX4_bestSeat 56 = .ok (.ireturn, 1) := by decide +kernel
theorem dX5_init_0 : decode cX5_init 0 = .ok (.aload_n 0, 1) := by decide +kernel
theorem dX5_init_1 : decode cX5_init 1 = .ok (.invokespecial 3, 3) := by decide +kernel
theorem dX5_init_4 : decode cX5_init 4 = .ok (.aload_n 0, 1) := by decide +kernel
theorem dX5_init_5 : decode cX5_init 5 = .ok (.bipush 30, 2) := by decide +kernel
theorem dX5_init_7 : decode cX5_init 7 = .ok (.newarray .int, 2) := by decide +kernel
theorem dX5_init_9 : decode cX5_init 9 = .ok (.putfield 9, 3) := by decide +kernel
theorem dX5_init_12 : decode cX5_init 12 = .ok (.return_, 1) := by decide +kernel
theorem dX5_add_0 : decode cX5_add 0 = .ok (.aload_n 0, 1) := by decide +kernel
theorem dX5_add_1 : decode cX5_add 1 = .ok (.getfield 15, 3) := by decide +kernel
theorem dX5_add_4 : decode cX5_add 4 = .ok (.bipush 30, 2) := by decide +kernel
theorem dX5_add_6 : decode cX5_add 6 = .ok (.if_icmp .lt 5, 3) := by decide +kernel
theorem dX5_add_9 : decode cX5_add 9 = .ok (.iconst 0, 1) := by decide +kernel
theorem dX5_add_10 : decode cX5_add 10 = .ok (.ireturn, 1) := by decide +kernel
theorem dX5_add_11 : decode cX5_add 11 = .ok (.aload_n 0, 1) := by decide +kernel
theorem dX5_add_12 : decode cX5_add 12 = .ok (.getfield 9, 3) := by decide +kernel
theorem dX5_add_15 : decode cX5_add 15 = .ok (.aload_n 0, 1) := by decide +kernel
theorem dX5_add_16 : decode cX5_add 16 = .ok (.getfield 15, 3) := by decide +kernel
theorem dX5_add_19 : decode cX5_add 19 = .ok (.iload_n 1, 1) := by decide +kernel
theorem dX5_add_20 : decode cX5_add 20 = .ok (.iastore, 1) := by decide +kernel
theorem dX5_add_21 : decode cX5_add 21 = .ok (.aload_n 0, 1) := by decide +kernel
theorem dX5_add_22 : decode cX5_add 22 = .ok (.dup, 1) := by decide +kernel
theorem dX5_add_23 : decode cX5_add 23 = .ok (.getfield 15, 3) := by decide +kernel
theorem dX5_add_26 : decode cX5_add 26 = .ok (.iconst 1, 1) := by decide +kernel
theorem dX5_add_27 : decode cX5_add 27 = .ok (.iadd, 1) := by decide +kernel
theorem dX5_add_28 : decode cX5_add 28 = .ok (.putfield 15, 3) := by decide +kernel
theorem dX5_add_31 : decode cX5_add 31 = .ok (.iconst 1, 1) := by decide +kernel
theorem dX5_add_32 : decode cX5_add 32 = .ok (.ireturn, 1) := by decide +kernel
theorem dX5_firstFault_0 : decode cX5_firstFault 0 = .ok (.iconst 0, 1) := by decide +kernel
theorem dX5_firstFault_1 : decode cX5_firstFault 1 = .ok (.istore_n 1, 1) := by decide +kernel
theorem dX5_firstFault_2 : decode cX5_firstFault 2 = .ok (.iconst 0, 1) := by decide +kernel
theorem dX5_firstFault_3 : decode cX5_firstFault 3 = .ok (.istore_n 2, 1) := by decide +kernel
theorem dX5_firstFault_4 : decode cX5_firstFault 4 = .ok (.iconst 0, 1) := by decide +kernel
theorem dX5_firstFault_5 : decode cX5_firstFault 5 = .ok (.istore_n 3, 1) := by decide +kernel
theorem dX5_firstFault_6 : decode cX5_firstFault 6 = .ok (.iload_n 3, 1) := by decide +kernel
theorem dX5_firstFault_7 : decode cX5_firstFault 7 = .ok (.aload_n 0, 1) := by decide +kernel
theorem dX5_firstFault_8 : decode cX5_firstFault 8 = .ok (.getfield 15, 3) := by decide +kernel
theorem dX5_firstFault_11 : decode cX5_firstFault 11 = .ok (.if_icmp .ge 55, 3) := by decide +kernel
theorem dX5_firstFault_14 : decode cX5_firstFault 14 = .ok (.aload_n 0, 1) := by decide +kernel
theorem dX5_firstFault_15 : decode cX5_firstFault 15 = .ok (.getfield 9, 3) := by decide +kernel
theorem dX5_firstFault_18 : decode cX5_firstFault 18 = .ok (.iload_n 3, 1) := by decide +kernel
theorem dX5_firstFault_19 : decode cX5_firstFault 19 = .ok (.iaload, 1) := by decide +kernel
theorem dX5_firstFault_20 : decode cX5_firstFault 20 = .ok (.istore 4, 2) := by decide +kernel
theorem dX5_firstFault_22 : decode cX5_firstFault 22 = .ok (.iload_n 2, 1) := by decide +kernel
theorem dX5_firstFault_23 : decode cX5_firstFault 23 = .ok (.ifCond .ne 12, 3) := by decide +kernel
theorem dX5_firstFault_26 : decode cX5_firstFault 26 = .ok (.iload 4, 2) := by decide +kernel
theorem dX5_firstFault_28 : decode cX5_firstFault 28 = .ok (.iload_n 1, 1) := by decide +kernel
theorem dX5_firstFault_29 : decode cX5_firstFault 29 = .ok (.invokestatic 19, 3) := by decide +kernel
theorem dX5_firstFault_32 : decode cX5_firstFault 32 = .ok (.ifCond .ne 5, 3) := by decide +kernel
theorem dX5_firstFault_35 : decode cX5_firstFault 35 = .ok (.iload_n 3, 1) := by decide +kernel
theorem dX5_firstFault_36 : decode cX5_firstFault 36 = .ok (.ireturn, 1) := by decide +kernel
theorem dX5_firstFault_37 : decode cX5_firstFault 37 = .ok (.iload 4, 2) := by decide +kernel
theorem dX5_firstFault_39 : decode cX5_firstFault 39 = .ok (.bipush 111, 2) := by decide +kernel
theorem dX5_firstFault_41 : decode cX5_firstFault 41 = .ok (.if_icmp .ne 6, 3) := by decide +kernel
theorem dX5_firstFault_44 : decode cX5_firstFault 44 = .ok (.iinc 1 1, 3) := by decide +kernel
theorem dX5_firstFault_47 : decode cX5_firstFault 47 = .ok (.iload 4, 2) := by decide +kernel
theorem dX5_firstFault_49 : decode cX5_firstFault 49 = .ok (.bipush 64, 2) := by decide +kernel
theorem dX5_firstFault_51 : decode cX5_firstFault 51 = .ok (.if_icmp .ne 7, 3) := by decide +kernel
theorem dX5_firstFault_54 : decode cX5_firstFault 54 = .ok (.iconst 1, 1) := by decide +kernel
theorem dX5_firstFault_55 : decode cX5_firstFault 55 = .ok (.goto 4, 3) := by decide +kernel
theorem dX5_firstFault_58 : decode cX5_firstFault 58 = .ok (.iconst 0, 1) := by decide +kernel
theorem dX5_firstFault_59 : decode cX5_firstFault 59 = .ok (.istore_n 2, 1) := by decide +kernel
theorem dX5_firstFault_60 : decode cX5_firstFault 60 = .ok (.iinc 3 1, 3) := by decide +kernel
theorem dX5_firstFault_63 : decode cX5_firstFault 63 = .ok (.goto (-57), 3) := by decide +kernel
theorem dX5_firstFault_66 : decode cX5_firstFault 66 = .ok (.iload_n 1, 1) := by decide +kernel
theorem dX5_firstFault_67 : decode cX5_firstFault 67 = .ok (.ifCond .ne 10, 3) := by decide +kernel
theorem dX5_firstFault_70 : decode cX5_firstFault 70 = .ok (.aload_n 0, 1) := by decide +kernel
theorem dX5_firstFault_71 : decode cX5_firstFault 71 = .ok (.getfield 15, 3) := by decide +kernel
theorem dX5_firstFault_74 : decode cX5_firstFault 74 = .ok (.goto 5, 3) := by decide +kernel
theorem dX5_firstFault_77 : decode cX5_firstFault 77 = .ok (.bipush (-6), 2) := by decide +kernel
theorem dX5_firstFault_79 : decode cX5_firstFault 79 = .ok (.ireturn, 1) := by decide +kernel
theorem dX5_canStand_0 : decode cX5_canStand 0 = .ok (.iload_n 0, 1) := by decide +kernel
theorem dX5_canStand_1 : decode cX5_canStand 1 = .ok (.lookupswitch 49 #[(64, 39), (111, 27)], 27) := by decide +kernel
theorem dX5_canStand_28 : decode cX5_canStand 28 = .ok (.iload_n 1, 1) := by decide +kernel
theorem dX5_canStand_29 : decode cX5_canStand 29 = .ok (.bipush 12, 2) := by decide +kernel
theorem dX5_canStand_31 : decode cX5_canStand 31 = .ok (.if_icmp .ge 7, 3) := by decide +kernel
theorem dX5_canStand_34 : decode cX5_canStand 34 = .ok (.iconst 1, 1) := by decide +kernel
theorem dX5_canStand_35 : decode cX5_canStand 35 = .ok (.goto 4, 3) := by decide +kernel
theorem dX5_canStand_38 : decode cX5_canStand 38 = .ok (.iconst 0, 1) := by decide +kernel
theorem dX5_canStand_39 : decode cX5_canStand 39 = .ok (.ireturn, 1) := by decide +kernel
theorem dX5_canStand_40 : decode cX5_canStand 40 = .ok (.iload_n 1, 1) := by decide +kernel
theorem dX5_canStand_41 : decode cX5_canStand 41 = .ok (.ifCond .le 7, 3) := by decide +kernel
theorem dX5_canStand_44 : decode cX5_canStand 44 = .ok (.iconst 1, 1) := by decide +kernel
theorem dX5_canStand_45 : decode cX5_canStand 45 = .ok (.goto 4, 3) := by decide +kernel
theorem dX5_canStand_48 : decode cX5_canStand 48 = .ok (.iconst 0, 1) := by decide +kernel
theorem dX5_canStand_49 : decode cX5_canStand 49 = .ok (.ireturn, 1) := by decide +kernel
theorem dX5_canStand_50 : decode cX5_canStand 50 = .ok (.iload_n 0, 1) := by decide +kernel
theorem dX5_canStand_51 : decode cX5_canStand 51 = .ok (.bipush 45, 2) := by decide +kernel
theorem dX5_canStand_53 : decode cX5_canStand 53 = .ok (.if_icmp .eq 9, 3) := by decide +kernel
theorem dX5_canStand_56 : decode cX5_canStand 56 = .ok (.iload_n 0, 1) := by decide +kernel
theorem dX5_canStand_57 : decode cX5_canStand 57 = .ok (.bipush 124, 2) := by decide +kernel
theorem dX5_canStand_59 : decode cX5_canStand 59 = .ok (.if_icmp .ne 7, 3) := by decide +kernel
theorem dX5_canStand_62 : decode cX5_canStand 62 = .ok (.iconst 1, 1) := by decide +kernel
theorem dX5_canStand_63 : decode cX5_canStand 63 = .ok (.goto 4, 3) := by decide +kernel
theorem dX5_canStand_66 : decode cX5_canStand 66 = .ok (.iconst 0, 1) := by decide +kernel
theorem dX5_canStand_67 : decode cX5_canStand 67 = .ok (.ireturn, 1) := by decide +kernel
theorem dX5_writeSteps_0 : decode cX5_writeSteps 0 = .ok (.iconst 0, 1) := by decide +kernel
theorem dX5_writeSteps_1 : decode cX5_writeSteps 1 = .ok (.istore_n 2, 1) := by decide +kernel
theorem dX5_writeSteps_2 : decode cX5_writeSteps 2 = .ok (.iconst 1, 1) := by decide +kernel
theorem dX5_writeSteps_3 : decode cX5_writeSteps 3 = .ok (.istore_n 3, 1) := by decide +kernel
theorem dX5_writeSteps_4 : decode cX5_writeSteps 4 = .ok (.iconst 1, 1) := by decide +kernel
theorem dX5_writeSteps_5 : decode cX5_writeSteps 5 = .ok (.istore 4, 2) := by decide +kernel
theorem dX5_writeSteps_7 : decode cX5_writeSteps 7 = .ok (.iconst 0, 1) := by decide +kernel
theorem dX5_writeSteps_8 : decode cX5_writeSteps 8 = .ok (.istore 5, 2) := by decide +kernel
theorem dX5_writeSteps_10 : decode cX5_writeSteps 10 = .ok (.iconst 0, 1) := by decide +kernel
theorem dX5_writeSteps_11 : decode cX5_writeSteps 11 = .ok (.istore 6, 2) := by decide +kernel
theorem dX5_writeSteps_13 : decode cX5_writeSteps 13 = .ok (.iload 6, 2) := by decide +kernel
theorem dX5_writeSteps_15 : decode cX5_writeSteps 15 = .ok (.aload_n 0, 1) := by decide +kernel
theorem dX5_writeSteps_16 : decode cX5_writeSteps 16 = .ok (.getfield 15, 3) := by decide +kernel
theorem dX5_writeSteps_19 : decode cX5_writeSteps 19 = .ok (.if_icmp .ge 98, 3) := by decide +kernel
theorem dX5_writeSteps_22 : decode cX5_writeSteps 22 = .ok (.aload_n 0, 1) := by decide +kernel
theorem dX5_writeSteps_23 : decode cX5_writeSteps 23 = .ok (.getfield 9, 3) := by decide +kernel
theorem dX5_writeSteps_26 : decode cX5_writeSteps 26 = .ok (.iload 6, 2) := by decide +kernel
theorem dX5_writeSteps_28 : decode cX5_writeSteps 28 = .ok (.iaload, 1) := by decide +kernel
theorem dX5_writeSteps_29 : decode cX5_writeSteps 29 = .ok (.istore 7, 2) := by decide +kernel
theorem dX5_writeSteps_31 : decode cX5_writeSteps 31 = .ok (.iload 7, 2) := by decide +kernel
theorem dX5_writeSteps_33 : decode cX5_writeSteps 33 = .ok (.bipush 111, 2) := by decide +kernel
theorem dX5_writeSteps_35 : decode cX5_writeSteps 35 = .ok (.if_icmp .ne 35, 3) := by decide +kernel
theorem dX5_writeSteps_38 : decode cX5_writeSteps 38 = .ok (.iload_n 2, 1) := by decide +kernel
theorem dX5_writeSteps_39 : decode cX5_writeSteps 39 = .ok (.bipush 12, 2) := by decide +kernel
theorem dX5_writeSteps_41 : decode cX5_writeSteps 41 = .ok (.if_icmp .ge 29, 3) := by decide +kernel
theorem dX5_writeSteps_44 : decode cX5_writeSteps 44 = .ok (.iload_n 2, 1) := by decide +kernel
theorem dX5_writeSteps_45 : decode cX5_writeSteps 45 = .ok (.ifCond .ne 9, 3) := by decide +kernel
theorem dX5_writeSteps_48 : decode cX5_writeSteps 48 = .ok (.iload 4, 2) := by decide +kernel
theorem dX5_writeSteps_50 : decode cX5_writeSteps 50 = .ok (.istore_n 3, 1) := by decide +kernel
theorem dX5_writeSteps_51 : decode cX5_writeSteps 51 = .ok (.goto 10, 3) := by decide +kernel
theorem dX5_writeSteps_54 : decode cX5_writeSteps 54 = .ok (.aload_n 1, 1) := by decide +kernel
theorem dX5_writeSteps_55 : decode cX5_writeSteps 55 = .ok (.iload_n 2, 1) := by decide +kernel
theorem dX5_writeSteps_56 : decode cX5_writeSteps 56 = .ok (.iconst 1, 1) := by decide +kernel
theorem dX5_writeSteps_57 : decode cX5_writeSteps 57 = .ok (.isub, 1) := by decide +kernel
theorem dX5_writeSteps_58 : decode cX5_writeSteps 58 = .ok (.iload 4, 2) := by decide +kernel
theorem dX5_writeSteps_60 : decode cX5_writeSteps 60 = .ok (.iastore, 1) := by decide +kernel
theorem dX5_writeSteps_61 : decode cX5_writeSteps 61 = .ok (.iinc 2 1, 3) := by decide +kernel
theorem dX5_writeSteps_64 : decode cX5_writeSteps 64 = .ok (.iconst 1, 1) := by decide +kernel
theorem dX5_writeSteps_65 : decode cX5_writeSteps 65 = .ok (.istore 4, 2) := by decide +kernel
theorem dX5_writeSteps_67 : decode cX5_writeSteps 67 = .ok (.goto 44, 3) := by decide +kernel
theorem dX5_writeSteps_70 : decode cX5_writeSteps 70 = .ok (.iload 7, 2) := by decide +kernel
theorem dX5_writeSteps_72 : decode cX5_writeSteps 72 = .ok (.bipush 124, 2) := by decide +kernel
theorem dX5_writeSteps_74 : decode cX5_writeSteps 74 = .ok (.if_icmp .ne 9, 3) := by decide +kernel
theorem dX5_writeSteps_77 : decode cX5_writeSteps 77 = .ok (.iconst 0, 1) := by decide +kernel
theorem dX5_writeSteps_78 : decode cX5_writeSteps 78 = .ok (.istore 4, 2) := by decide +kernel
theorem dX5_writeSteps_80 : decode cX5_writeSteps 80 = .ok (.goto 31, 3) := by decide +kernel
theorem dX5_writeSteps_83 : decode cX5_writeSteps 83 = .ok (.iload 7, 2) := by decide +kernel
theorem dX5_writeSteps_85 : decode cX5_writeSteps 85 = .ok (.bipush 45, 2) := by decide +kernel
theorem dX5_writeSteps_87 : decode cX5_writeSteps 87 = .ok (.if_icmp .ne 14, 3) := by decide +kernel
theorem dX5_writeSteps_90 : decode cX5_writeSteps 90 = .ok (.iload 4, 2) := by decide +kernel
theorem dX5_writeSteps_92 : decode cX5_writeSteps 92 = .ok (.ifCond .eq 9, 3) := by decide +kernel
theorem dX5_writeSteps_95 : decode cX5_writeSteps 95 = .ok (.iinc 4 1, 3) := by decide +kernel
theorem dX5_writeSteps_98 : decode cX5_writeSteps 98 = .ok (.goto 13, 3) := by decide +kernel
theorem dX5_writeSteps_101 : decode cX5_writeSteps 101 = .ok (.iload 7, 2) := by decide +kernel
theorem dX5_writeSteps_103 : decode cX5_writeSteps 103 = .ok (.bipush 64, 2) := by decide +kernel
theorem dX5_writeSteps_105 : decode cX5_writeSteps 105 = .ok (.if_icmp .ne 6, 3) := by decide +kernel
theorem dX5_writeSteps_108 : decode cX5_writeSteps 108 = .ok (.iconst 1, 1) := by decide +kernel
theorem dX5_writeSteps_109 : decode cX5_writeSteps 109 = .ok (.istore 5, 2) := by decide +kernel
theorem dX5_writeSteps_111 : decode cX5_writeSteps 111 = .ok (.iinc 6 1, 3) := by decide +kernel
theorem dX5_writeSteps_114 : decode cX5_writeSteps 114 = .ok (.goto (-101), 3) := by decide +kernel
theorem dX5_writeSteps_117 : decode cX5_writeSteps 117 = .ok (.iload_n 2, 1) := by decide +kernel
theorem dX5_writeSteps_118 : decode cX5_writeSteps 118 = .ok (.ifCond .le 49, 3) := by decide +kernel
theorem dX5_writeSteps_121 : decode cX5_writeSteps 121 = .ok (.iload 5, 2) := by decide +kernel
theorem dX5_writeSteps_123 : decode cX5_writeSteps 123 = .ok (.ifCond .eq 21, 3) := by decide +kernel
theorem dX5_writeSteps_126 : decode cX5_writeSteps 126 = .ok (.iload_n 2, 1) := by decide +kernel
theorem dX5_writeSteps_127 : decode cX5_writeSteps 127 = .ok (.iconst 1, 1) := by decide +kernel
theorem dX5_writeSteps_128 : decode cX5_writeSteps 128 = .ok (.if_icmp .le 16, 3) := by decide +kernel
theorem dX5_writeSteps_131 : decode cX5_writeSteps 131 = .ok (.iload 4, 2) := by decide +kernel
theorem dX5_writeSteps_133 : decode cX5_writeSteps 133 = .ok (.ifCond .eq 11, 3) := by decide +kernel
theorem dX5_writeSteps_136 : decode cX5_writeSteps 136 = .ok (.iload_n 3, 1) := by decide +kernel
theorem dX5_writeSteps_137 : decode cX5_writeSteps 137 = .ok (.ifCond .eq 7, 3) := by decide +kernel
theorem dX5_writeSteps_140 : decode cX5_writeSteps 140 = .ok (.iconst 1, 1) := by decide +kernel
theorem dX5_writeSteps_141 : decode cX5_writeSteps 141 = .ok (.goto 4, 3) := by decide +kernel
theorem dX5_writeSteps_144 : decode cX5_writeSteps 144 = .ok (.iconst 0, 1) := by decide +kernel
theorem dX5_writeSteps_145 : decode cX5_writeSteps 145 = .ok (.istore 6, 2) := by decide +kernel
theorem dX5_writeSteps_147 : decode cX5_writeSteps 147 = .ok (.aload_n 1, 1) := by decide +kernel
theorem dX5_writeSteps_148 : decode cX5_writeSteps 148 = .ok (.iload_n 2, 1) := by decide +kernel
theorem dX5_writeSteps_149 : decode cX5_writeSteps 149 = .ok (.iconst 1, 1) := by decide +kernel
theorem dX5_writeSteps_150 : decode cX5_writeSteps 150 = .ok (.isub, 1) := by decide +kernel
theorem dX5_writeSteps_151 : decode cX5_writeSteps 151 = .ok (.iload 6, 2) := by decide +kernel
theorem dX5_writeSteps_153 : decode cX5_writeSteps 153 = .ok (.ifCond .eq 12, 3) := by decide +kernel
theorem dX5_writeSteps_156 : decode cX5_writeSteps 156 = .ok (.iload 4, 2) := by decide +kernel
theorem dX5_writeSteps_158 : decode cX5_writeSteps 158 = .ok (.iload_n 3, 1) := by decide +kernel
theorem dX5_writeSteps_159 : decode cX5_writeSteps 159 = .ok (.iadd, 1) := by decide +kernel
theorem dX5_writeSteps_160 : decode cX5_writeSteps 160 = .ok (.iconst 1, 1) := by decide +kernel
theorem dX5_writeSteps_161 : decode cX5_writeSteps 161 = .ok (.isub, 1) := by decide +kernel
theorem dX5_writeSteps_162 : decode cX5_writeSteps 162 = .ok (.goto 4, 3) := by decide +kernel
theorem dX5_writeSteps_165 : decode cX5_writeSteps 165 = .ok (.iconst 0, 1) := by decide +kernel
theorem dX5_writeSteps_166 : decode cX5_writeSteps 166 = .ok (.iastore, 1) := by decide +kernel
theorem dX5_writeSteps_167 : decode cX5_writeSteps 167 = .ok (.iload_n 2, 1) := by decide +kernel
theorem dX5_writeSteps_168 : decode cX5_writeSteps 168 = .ok (.ireturn, 1) := by decide +kernel
theorem dX6_init_0 : decode cX6_init 0 = .ok (.aload_n 0, 1) := by decide +kernel
theorem dX6_init_1 : decode cX6_init 1 = .ok (.invokespecial 3, 3) := by decide +kernel
theorem dX6_init_4 : decode cX6_init 4 = .ok (.aload_n 0, 1) := by decide +kernel
theorem dX6_init_5 : decode cX6_init 5 = .ok (.aload_n 1, 1) := by decide +kernel
theorem dX6_init_6 : decode cX6_init 6 = .ok (.putfield 9, 3) := by decide +kernel
theorem dX6_init_9 : decode cX6_init 9 = .ok (.aload_n 0, 1) := by decide +kernel
theorem dX6_init_10 : decode cX6_init 10 = .ok (.bipush 13, 2) := by decide +kernel
theorem dX6_init_12 : decode cX6_init 12 = .ok (.newarray .long, 2) := by decide +kernel
theorem dX6_init_14 : decode cX6_init 14 = .ok (.putfield 15, 3) := by decide +kernel
theorem dX6_init_17 : decode cX6_init 17 = .ok (.return_, 1) := by decide +kernel
theorem dX6_start_0 : decode cX6_start 0 = .ok (.aload_n 0, 1) := by decide +kernel
theorem dX6_start_1 : decode cX6_start 1 = .ok (.getfield 15, 3) := by decide +kernel
theorem dX6_start_4 : decode cX6_start 4 = .ok (.lconst 0, 1) := by decide +kernel
theorem dX6_start_5 : decode cX6_start 5 = .ok (.invokestatic 19, 3) := by decide +kernel
theorem dX6_start_8 : decode cX6_start 8 = .ok (.aload_n 0, 1) := by decide +kernel
theorem dX6_start_9 : decode cX6_start 9 = .ok (.lconst 0, 1) := by decide +kernel
theorem dX6_start_10 : decode cX6_start 10 = .ok (.putfield 25, 3) := by decide +kernel
theorem dX6_start_13 : decode cX6_start 13 = .ok (.aload_n 0, 1) := by decide +kernel
theorem dX6_start_14 : decode cX6_start 14 = .ok (.iload_n 2, 1) := by decide +kernel
theorem dX6_start_15 : decode cX6_start 15 = .ok (.putfield 29, 3) := by decide +kernel
theorem dX6_start_18 : decode cX6_start 18 = .ok (.aload_n 0, 1) := by decide +kernel
theorem dX6_start_19 : decode cX6_start 19 = .ok (.lconst 1, 1) := by decide +kernel
theorem dX6_start_20 : decode cX6_start 20 = .ok (.putfield 33, 3) := by decide +kernel
theorem dX6_start_23 : decode cX6_start 23 = .ok (.iconst 0, 1) := by decide +kernel
theorem dX6_start_24 : decode cX6_start 24 = .ok (.istore 4, 2) := by decide +kernel
theorem dX6_start_26 : decode cX6_start 26 = .ok (.iload 4, 2) := by decide +kernel
theorem dX6_start_28 : decode cX6_start 28 = .ok (.iload_n 3, 1) := by decide +kernel
theorem dX6_start_29 : decode cX6_start 29 = .ok (.if_icmp .ge 21, 3) := by decide +kernel
theorem dX6_start_32 : decode cX6_start 32 = .ok (.aload_n 0, 1) := by decide +kernel
theorem dX6_start_33 : decode cX6_start 33 = .ok (.dup, 1) := by decide +kernel
theorem dX6_start_34 : decode cX6_start 34 = .ok (.getfield 33, 3) := by decide +kernel
theorem dX6_start_37 : decode cX6_start 37 = .ok (.ldc2_w 36, 3) := by decide +kernel
theorem dX6_start_40 : decode cX6_start 40 = .ok (.lmul, 1) := by decide +kernel
theorem dX6_start_41 : decode cX6_start 41 = .ok (.putfield 33, 3) := by decide +kernel
theorem dX6_start_44 : decode cX6_start 44 = .ok (.iinc 4 1, 3) := by decide +kernel
theorem dX6_start_47 : decode cX6_start 47 = .ok (.goto (-21), 3) := by decide +kernel
theorem dX6_start_50 : decode cX6_start 50 = .ok (.aload_n 0, 1) := by decide +kernel
theorem dX6_start_51 : decode cX6_start 51 = .ok (.iload_n 1, 1) := by decide +kernel
theorem dX6_start_52 : decode cX6_start 52 = .ok (.iload_n 3, 1) := by decide +kernel
theorem dX6_start_53 : decode cX6_start 53 = .ok (.aload_n 0, 1) := by decide +kernel
theorem dX6_start_54 : decode cX6_start 54 = .ok (.getfield 33, 3) := by decide +kernel
theorem dX6_start_57 : decode cX6_start 57 = .ok (.invokevirtual 38, 3) := by decide +kernel
theorem dX6_start_60 : decode cX6_start 60 = .ok (.return_, 1) := by decide +kernel
theorem dX6_go_0 : decode cX6_go 0 = .ok (.iload_n 2, 1) := by decide +kernel
theorem dX6_go_1 : decode cX6_go 1 = .ok (.ifCond .gt 17, 3) := by decide +kernel
theorem dX6_go_4 : decode cX6_go 4 = .ok (.aload_n 0, 1) := by decide +kernel
theorem dX6_go_5 : decode cX6_go 5 = .ok (.getfield 15, 3) := by decide +kernel
theorem dX6_go_8 : decode cX6_go 8 = .ok (.iload_n 1, 1) := by decide +kernel
theorem dX6_go_9 : decode cX6_go 9 = .ok (.invokestatic 42, 3) := by decide +kernel
theorem dX6_go_12 : decode cX6_go 12 = .ok (.dup2, 1) := by decide +kernel
theorem dX6_go_13 : decode cX6_go 13 = .ok (.laload, 1) := by decide +kernel
theorem dX6_go_14 : decode cX6_go 14 = .ok (.lload_n 3, 1) := by decide +kernel
theorem dX6_go_15 : decode cX6_go 15 = .ok (.ladd, 1) := by decide +kernel
theorem dX6_go_16 : decode cX6_go 16 = .ok (.lastore, 1) := by decide +kernel
theorem dX6_go_17 : decode cX6_go 17 = .ok (.return_, 1) := by decide +kernel
theorem dX6_go_18 : decode cX6_go 18 = .ok (.aload_n 0, 1) := by decide +kernel
theorem dX6_go_19 : decode cX6_go 19 = .ok (.iload_n 1, 1) := by decide +kernel
theorem dX6_go_20 : decode cX6_go 20 = .ok (.iload_n 2, 1) := by decide +kernel
theorem dX6_go_21 : decode cX6_go 21 = .ok (.lload_n 3, 1) := by decide +kernel
theorem dX6_go_22 : decode cX6_go 22 = .ok (.ldc2_w 48, 3) := by decide +kernel
theorem dX6_go_25 : decode cX6_go 25 = .ok (.ldiv, 1) := by decide +kernel
theorem dX6_go_26 : decode cX6_go 26 = .ok (.invokevirtual 50, 3) := by decide +kernel
theorem dX6_go_29 : decode cX6_go 29 = .ok (.aload_n 0, 1) := by decide +kernel
theorem dX6_go_30 : decode cX6_go 30 = .ok (.iload_n 1, 1) := by decide +kernel
theorem dX6_go_31 : decode cX6_go 31 = .ok (.iload_n 2, 1) := by decide +kernel
theorem dX6_go_32 : decode cX6_go 32 = .ok (.lload_n 3, 1) := by decide +kernel
theorem dX6_go_33 : decode cX6_go 33 = .ok (.ldc2_w 48, 3) := by decide +kernel
theorem dX6_go_36 : decode cX6_go 36 = .ok (.ldiv, 1) := by decide +kernel
theorem dX6_go_37 : decode cX6_go 37 = .ok (.invokevirtual 53, 3) := by decide +kernel
theorem dX6_go_40 : decode cX6_go 40 = .ok (.return_, 1) := by decide +kernel
theorem dX6_oneComes_0 : decode cX6_oneComes 0 = .ok (.aload_n 0, 1) := by decide +kernel
theorem dX6_oneComes_1 : decode cX6_oneComes 1 = .ok (.getfield 9, 3) := by decide +kernel
theorem dX6_oneComes_4 : decode cX6_oneComes 4 = .ok (.iload_n 1, 1) := by decide +kernel
theorem dX6_oneComes_5 : decode cX6_oneComes 5 = .ok (.invokevirtual 56, 3) := by decide +kernel
theorem dX6_oneComes_8 : decode cX6_oneComes 8 = .ok (.pop, 1) := by decide +kernel
theorem dX6_oneComes_9 : decode cX6_oneComes 9 = .ok (.aload_n 0, 1) := by decide +kernel
theorem dX6_oneComes_10 : decode cX6_oneComes 10 = .ok (.getfield 9, 3) := by decide +kernel
theorem dX6_oneComes_13 : decode cX6_oneComes 13 = .ok (.aload_n 0, 1) := by decide +kernel
theorem dX6_oneComes_14 : decode cX6_oneComes 14 = .ok (.getfield 29, 3) := by decide +kernel
theorem dX6_oneComes_17 : decode cX6_oneComes 17 = .ok (.invokevirtual 62, 3) := by decide +kernel
theorem dX6_oneComes_20 : decode cX6_oneComes 20 = .ok (.istore 5, 2) := by decide +kernel
theorem dX6_oneComes_22 : decode cX6_oneComes 22 = .ok (.iload 5, 2) := by decide +kernel
theorem dX6_oneComes_24 : decode cX6_oneComes 24 = .ok (.bipush (-6), 2) := by decide +kernel
theorem dX6_oneComes_26 : decode cX6_oneComes 26 = .ok (.if_icmp .ne 25, 3) := by decide +kernel
theorem dX6_oneComes_29 : decode cX6_oneComes 29 = .ok (.aload_n 0, 1) := by decide +kernel
theorem dX6_oneComes_30 : decode cX6_oneComes 30 = .ok (.dup, 1) := by decide +kernel
theorem dX6_oneComes_31 : decode cX6_oneComes 31 = .ok (.getfield 25, 3) := by decide +kernel
theorem dX6_oneComes_34 : decode cX6_oneComes 34 = .ok (.lload_n 3, 1) := by decide +kernel
theorem dX6_oneComes_35 : decode cX6_oneComes 35 = .ok (.ladd, 1) := by decide +kernel
theorem dX6_oneComes_36 : decode cX6_oneComes 36 = .ok (.putfield 25, 3) := by decide +kernel
theorem dX6_oneComes_39 : decode cX6_oneComes 39 = .ok (.aload_n 0, 1) := by decide +kernel
theorem dX6_oneComes_40 : decode cX6_oneComes 40 = .ok (.iload_n 1, 1) := by decide +kernel
theorem dX6_oneComes_41 : decode cX6_oneComes 41 = .ok (.iload_n 2, 1) := by decide +kernel
theorem dX6_oneComes_42 : decode cX6_oneComes 42 = .ok (.iconst 1, 1) := by decide +kernel
theorem dX6_oneComes_43 : decode cX6_oneComes 43 = .ok (.isub, 1) := by decide +kernel
theorem dX6_oneComes_44 : decode cX6_oneComes 44 = .ok (.lload_n 3, 1) := by decide +kernel
theorem dX6_oneComes_45 : decode cX6_oneComes 45 = .ok (.invokevirtual 38, 3) := by decide +kernel
theorem dX6_oneComes_48 : decode cX6_oneComes 48 = .ok (.goto 17, 3) := by decide +kernel
theorem dX6_oneComes_51 : decode cX6_oneComes 51 = .ok (.aload_n 0, 1) := by decide +kernel
theorem dX6_oneComes_52 : decode cX6_oneComes 52 = .ok (.iload_n 1, 1) := by decide +kernel
theorem dX6_oneComes_53 : decode cX6_oneComes 53 = .ok (.iconst 1, 1) := by decide +kernel
theorem dX6_oneComes_54 : decode cX6_oneComes 54 = .ok (.iload 5, 2) := by decide +kernel
theorem dX6_oneComes_56 : decode cX6_oneComes 56 = .ok (.ishl, 1) := by decide +kernel
theorem dX6_oneComes_57 : decode cX6_oneComes 57 = .ok (.ior, 1) := by decide +kernel
theorem dX6_oneComes_58 : decode cX6_oneComes 58 = .ok (.iload_n 2, 1) := by decide +kernel
theorem dX6_oneComes_59 : decode cX6_oneComes 59 = .ok (.iconst 1, 1) := by decide +kernel
theorem dX6_oneComes_60 : decode cX6_oneComes 60 = .ok (.isub, 1) := by decide +kernel
theorem dX6_oneComes_61 : decode cX6_oneComes 61 = .ok (.lload_n 3, 1) := by decide +kernel
theorem dX6_oneComes_62 : decode cX6_oneComes 62 = .ok (.invokevirtual 38, 3) := by decide +kernel
theorem dX6_oneComes_65 : decode cX6_oneComes 65 = .ok (.return_, 1) := by decide +kernel
theorem dX6_oneGoes_0 : decode cX6_oneGoes 0 = .ok (.iload_n 1, 1) := by decide +kernel
theorem dX6_oneGoes_1 : decode cX6_oneGoes 1 = .ok (.invokestatic 42, 3) := by decide +kernel
theorem dX6_oneGoes_4 : decode cX6_oneGoes 4 = .ok (.istore 5, 2) := by decide +kernel
theorem dX6_oneGoes_6 : decode cX6_oneGoes 6 = .ok (.iload 5, 2) := by decide +kernel
theorem dX6_oneGoes_8 : decode cX6_oneGoes 8 = .ok (.ifCond .ne 13, 3) := by decide +kernel
theorem dX6_oneGoes_11 : decode cX6_oneGoes 11 = .ok (.aload_n 0, 1) := by decide +kernel
theorem dX6_oneGoes_12 : decode cX6_oneGoes 12 = .ok (.iload_n 1, 1) := by decide +kernel
theorem dX6_oneGoes_13 : decode cX6_oneGoes 13 = .ok (.iload_n 2, 1) := by decide +kernel
theorem dX6_oneGoes_14 : decode cX6_oneGoes 14 = .ok (.iconst 1, 1) := by decide +kernel
theorem dX6_oneGoes_15 : decode cX6_oneGoes 15 = .ok (.isub, 1) := by decide +kernel
theorem dX6_oneGoes_16 : decode cX6_oneGoes 16 = .ok (.lload_n 3, 1) := by decide +kernel
theorem dX6_oneGoes_17 : decode cX6_oneGoes 17 = .ok (.invokevirtual 38, 3) := by decide +kernel
theorem dX6_oneGoes_20 : decode cX6_oneGoes 20 = .ok (.return_, 1) := by decide +kernel
theorem dX6_oneGoes_21 : decode cX6_oneGoes 21 = .ok (.iconst 0, 1) := by decide +kernel
theorem dX6_oneGoes_22 : decode cX6_oneGoes 22 = .ok (.istore 6, 2) := by decide +kernel
theorem dX6_oneGoes_24 : decode cX6_oneGoes 24 = .ok (.iload 6, 2) := by decide +kernel
theorem dX6_oneGoes_26 : decode cX6_oneGoes 26 = .ok (.bipush 12, 2) := by decide +kernel
theorem dX6_oneGoes_28 : decode cX6_oneGoes 28 = .ok (.if_icmp .ge 38, 3) := by decide +kernel
theorem dX6_oneGoes_31 : decode cX6_oneGoes 31 = .ok (.iload_n 1, 1) := by decide +kernel
theorem dX6_oneGoes_32 : decode cX6_oneGoes 32 = .ok (.iload 6, 2) := by decide +kernel
theorem dX6_oneGoes_34 : decode cX6_oneGoes 34 = .ok (.ishr, 1) := by decide +kernel
theorem dX6_oneGoes_35 : decode cX6_oneGoes 35 = .ok (.iconst 1, 1) := by decide +kernel
theorem dX6_oneGoes_36 : decode cX6_oneGoes 36 = .ok (.iand, 1) := by decide +kernel
theorem dX6_oneGoes_37 : decode cX6_oneGoes 37 = .ok (.ifCond .eq 23, 3) := by decide +kernel
theorem dX6_oneGoes_40 : decode cX6_oneGoes 40 = .ok (.aload_n 0, 1) := by decide +kernel
theorem dX6_oneGoes_41 : decode cX6_oneGoes 41 = .ok (.iload_n 1, 1) := by decide +kernel
theorem dX6_oneGoes_42 : decode cX6_oneGoes 42 = .ok (.iconst 1, 1) := by decide +kernel
theorem dX6_oneGoes_43 : decode cX6_oneGoes 43 = .ok (.iload 6, 2) := by decide +kernel
theorem dX6_oneGoes_45 : decode cX6_oneGoes 45 = .ok (.ishl, 1) := by decide +kernel
theorem dX6_oneGoes_46 : decode cX6_oneGoes 46 = .ok (.iconst (-1), 1) := by decide +kernel
theorem dX6_oneGoes_47 : decode cX6_oneGoes 47 = .ok (.ixor, 1) := by decide +kernel
theorem dX6_oneGoes_48 : decode cX6_oneGoes 48 = .ok (.iand, 1) := by decide +kernel
theorem dX6_oneGoes_49 : decode cX6_oneGoes 49 = .ok (.iload_n 2, 1) := by decide +kernel
theorem dX6_oneGoes_50 : decode cX6_oneGoes 50 = .ok (.iconst 1, 1) := by decide +kernel
theorem dX6_oneGoes_51 : decode cX6_oneGoes 51 = .ok (.isub, 1) := by decide +kernel
theorem dX6_oneGoes_52 : decode cX6_oneGoes 52 = .ok (.lload_n 3, 1) := by decide +kernel
theorem dX6_oneGoes_53 : decode cX6_oneGoes 53 = .ok (.iload 5, 2) := by decide +kernel
theorem dX6_oneGoes_55 : decode cX6_oneGoes 55 = .ok (.i2l, 1) := by decide +kernel
theorem dX6_oneGoes_56 : decode cX6_oneGoes 56 = .ok (.ldiv, 1) := by decide +kernel
theorem dX6_oneGoes_57 : decode cX6_oneGoes 57 = .ok (.invokevirtual 38, 3) := by decide +kernel
theorem dX6_oneGoes_60 : decode cX6_oneGoes 60 = .ok (.iinc 6 1, 3) := by decide +kernel
theorem dX6_oneGoes_63 : decode cX6_oneGoes 63 = .ok (.goto (-39), 3) := by decide +kernel
theorem dX6_oneGoes_66 : decode cX6_oneGoes 66 = .ok (.return_, 1) := by decide +kernel
theorem dX7_init_0 : decode cX7_init 0 = .ok (.aload_n 0, 1) := by decide +kernel
theorem dX7_init_1 : decode cX7_init 1 = .ok (.invokespecial 3, 3) := by decide +kernel
theorem dX7_init_4 : decode cX7_init 4 = .ok (.aload_n 0, 1) := by decide +kernel
theorem dX7_init_5 : decode cX7_init 5 = .ok (.bipush 12, 2) := by decide +kernel
theorem dX7_init_7 : decode cX7_init 7 = .ok (.newarray .int, 2) := by decide +kernel
theorem dX7_init_9 : decode cX7_init 9 = .ok (.putfield 9, 3) := by decide +kernel
theorem dX7_init_12 : decode cX7_init 12 = .ok (.aload_n 0, 1) := by decide +kernel
theorem dX7_init_13 : decode cX7_init 13 = .ok (.bipush 12, 2) := by decide +kernel
theorem dX7_init_15 : decode cX7_init 15 = .ok (.newarray .int, 2) := by decide +kernel
theorem dX7_init_17 : decode cX7_init 17 = .ok (.putfield 15, 3) := by decide +kernel
theorem dX7_init_20 : decode cX7_init 20 = .ok (.aload_n 0, 1) := by decide +kernel
theorem dX7_init_21 : decode cX7_init 21 = .ok (.bipush 12, 2) := by decide +kernel
theorem dX7_init_23 : decode cX7_init 23 = .ok (.newarray .int, 2) := by decide +kernel
theorem dX7_init_25 : decode cX7_init 25 = .ok (.putfield 18, 3) := by decide +kernel
theorem dX7_init_28 : decode cX7_init 28 = .ok (.aload_n 0, 1) := by decide +kernel
theorem dX7_init_29 : decode cX7_init 29 = .ok (.bipush 96, 2) := by decide +kernel
theorem dX7_init_31 : decode cX7_init 31 = .ok (.newarray .int, 2) := by decide +kernel
theorem dX7_init_33 : decode cX7_init 33 = .ok (.putfield 21, 3) := by decide +kernel
theorem dX7_init_36 : decode cX7_init 36 = .ok (.aload_n 0, 1) := by decide +kernel
theorem dX7_init_37 : decode cX7_init 37 = .ok (.bipush 8, 2) := by decide +kernel
theorem dX7_init_39 : decode cX7_init 39 = .ok (.newarray .int, 2) := by decide +kernel
theorem dX7_init_41 : decode cX7_init 41 = .ok (.putfield 24, 3) := by decide +kernel
theorem dX7_init_44 : decode cX7_init 44 = .ok (.aload_n 0, 1) := by decide +kernel
theorem dX7_init_45 : decode cX7_init 45 = .ok (.iconst 1, 1) := by decide +kernel
theorem dX7_init_46 : decode cX7_init 46 = .ok (.putfield 27, 3) := by decide +kernel
theorem dX7_init_49 : decode cX7_init 49 = .ok (.aload_n 0, 1) := by decide +kernel
theorem dX7_init_50 : decode cX7_init 50 = .ok (.iconst 2, 1) := by decide +kernel
theorem dX7_init_51 : decode cX7_init 51 = .ok (.putfield 31, 3) := by decide +kernel
theorem dX7_init_54 : decode cX7_init 54 = .ok (.return_, 1) := by decide +kernel
theorem dX7_copyFrom_0 : decode cX7_copyFrom 0 = .ok (.aload_n 1, 1) := by decide +kernel
theorem dX7_copyFrom_1 : decode cX7_copyFrom 1 = .ok (.getfield 9, 3) := by decide +kernel
theorem dX7_copyFrom_4 : decode cX7_copyFrom 4 = .ok (.iconst 0, 1) := by decide +kernel
theorem dX7_copyFrom_5 : decode cX7_copyFrom 5 = .ok (.aload_n 0, 1) := by decide +kernel
theorem dX7_copyFrom_6 : decode cX7_copyFrom 6 = .ok (.getfield 9, 3) := by decide +kernel
theorem dX7_copyFrom_9 : decode cX7_copyFrom 9 = .ok (.iconst 0, 1) := by decide +kernel
theorem dX7_copyFrom_10 : decode cX7_copyFrom 10 = .ok (.bipush 12, 2) := by decide +kernel
theorem dX7_copyFrom_12 : decode cX7_copyFrom 12 = .ok (.invokestatic 34, 3) := by decide +kernel
theorem dX7_copyFrom_15 : decode cX7_copyFrom 15 = .ok (.aload_n 1, 1) := by decide +kernel
theorem dX7_copyFrom_16 : decode cX7_copyFrom 16 = .ok (.getfield 15, 3) := by decide +kernel
theorem dX7_copyFrom_19 : decode cX7_copyFrom 19 = .ok (.iconst 0, 1) := by decide +kernel
theorem dX7_copyFrom_20 : decode cX7_copyFrom 20 = .ok (.aload_n 0, 1) := by decide +kernel
theorem dX7_copyFrom_21 : decode cX7_copyFrom 21 = .ok (.getfield 15, 3) := by decide +kernel
theorem dX7_copyFrom_24 : decode cX7_copyFrom 24 = .ok (.iconst 0, 1) := by decide +kernel
theorem dX7_copyFrom_25 : decode cX7_copyFrom 25 = .ok (.bipush 12, 2) := by decide +kernel
theorem dX7_copyFrom_27 : decode cX7_copyFrom 27 = .ok (.invokestatic 34, 3) := by decide +kernel
theorem dX7_copyFrom_30 : decode cX7_copyFrom 30 = .ok (.aload_n 1, 1) := by decide +kernel
theorem dX7_copyFrom_31 : decode cX7_copyFrom 31 = .ok (.getfield 18, 3) := by decide +kernel
theorem dX7_copyFrom_34 : decode cX7_copyFrom 34 = .ok (.iconst 0, 1) := by decide +kernel
theorem dX7_copyFrom_35 : decode cX7_copyFrom 35 = .ok (.aload_n 0, 1) := by decide +kernel
theorem dX7_copyFrom_36 : decode cX7_copyFrom 36 = .ok (.getfield 18, 3) := by decide +kernel
theorem dX7_copyFrom_39 : decode cX7_copyFrom 39 = .ok (.iconst 0, 1) := by decide +kernel
theorem dX7_copyFrom_40 : decode cX7_copyFrom 40 = .ok (.bipush 12, 2) := by decide +kernel
theorem dX7_copyFrom_42 : decode cX7_copyFrom 42 = .ok (.invokestatic 34, 3) := by decide +kernel
theorem dX7_copyFrom_45 : decode cX7_copyFrom 45 = .ok (.aload_n 1, 1) := by decide +kernel
theorem dX7_copyFrom_46 : decode cX7_copyFrom 46 = .ok (.getfield 21, 3) := by decide +kernel
theorem dX7_copyFrom_49 : decode cX7_copyFrom 49 = .ok (.iconst 0, 1) := by decide +kernel
theorem dX7_copyFrom_50 : decode cX7_copyFrom 50 = .ok (.aload_n 0, 1) := by decide +kernel
theorem dX7_copyFrom_51 : decode cX7_copyFrom 51 = .ok (.getfield 21, 3) := by decide +kernel
theorem dX7_copyFrom_54 : decode cX7_copyFrom 54 = .ok (.iconst 0, 1) := by decide +kernel
theorem dX7_copyFrom_55 : decode cX7_copyFrom 55 = .ok (.bipush 96, 2) := by decide +kernel
theorem dX7_copyFrom_57 : decode cX7_copyFrom 57 = .ok (.invokestatic 34, 3) := by decide +kernel
theorem dX7_copyFrom_60 : decode cX7_copyFrom 60 = .ok (.aload_n 1, 1) := by decide +kernel
theorem dX7_copyFrom_61 : decode cX7_copyFrom 61 = .ok (.getfield 24, 3) := by decide +kernel
theorem dX7_copyFrom_64 : decode cX7_copyFrom 64 = .ok (.iconst 0, 1) := by decide +kernel
theorem dX7_copyFrom_65 : decode cX7_copyFrom 65 = .ok (.aload_n 0, 1) := by decide +kernel
theorem dX7_copyFrom_66 : decode cX7_copyFrom 66 = .ok (.getfield 24, 3) := by decide +kernel
theorem dX7_copyFrom_69 : decode cX7_copyFrom 69 = .ok (.iconst 0, 1) := by decide +kernel
theorem dX7_copyFrom_70 : decode cX7_copyFrom 70 = .ok (.bipush 8, 2) := by decide +kernel
theorem dX7_copyFrom_72 : decode cX7_copyFrom 72 = .ok (.invokestatic 34, 3) := by decide +kernel
theorem dX7_copyFrom_75 : decode cX7_copyFrom 75 = .ok (.aload_n 0, 1) := by decide +kernel
theorem dX7_copyFrom_76 : decode cX7_copyFrom 76 = .ok (.aload_n 1, 1) := by decide +kernel
theorem dX7_copyFrom_77 : decode cX7_copyFrom 77 = .ok (.getfield 27, 3) := by decide +kernel
theorem dX7_copyFrom_80 : decode cX7_copyFrom 80 = .ok (.putfield 27, 3) := by decide +kernel
theorem dX7_copyFrom_83 : decode cX7_copyFrom 83 = .ok (.aload_n 0, 1) := by decide +kernel
theorem dX7_copyFrom_84 : decode cX7_copyFrom 84 = .ok (.aload_n 1, 1) := by decide +kernel
theorem dX7_copyFrom_85 : decode cX7_copyFrom 85 = .ok (.getfield 31, 3) := by decide +kernel
theorem dX7_copyFrom_88 : decode cX7_copyFrom 88 = .ok (.putfield 31, 3) := by decide +kernel
theorem dX7_copyFrom_91 : decode cX7_copyFrom 91 = .ok (.aload_n 0, 1) := by decide +kernel
theorem dX7_copyFrom_92 : decode cX7_copyFrom 92 = .ok (.aload_n 1, 1) := by decide +kernel
theorem dX7_copyFrom_93 : decode cX7_copyFrom 93 = .ok (.getfield 40, 3) := by decide +kernel
theorem dX7_copyFrom_96 : decode cX7_copyFrom 96 = .ok (.putfield 40, 3) := by decide +kernel
theorem dX7_copyFrom_99 : decode cX7_copyFrom 99 = .ok (.aload_n 0, 1) := by decide +kernel
theorem dX7_copyFrom_100 : decode cX7_copyFrom 100 = .ok (.aload_n 1, 1) := by decide +kernel
theorem dX7_copyFrom_101 : decode cX7_copyFrom 101 = .ok (.getfield 43, 3) := by decide +kernel
theorem dX7_copyFrom_104 : decode cX7_copyFrom 104 = .ok (.putfield 43, 3) := by decide +kernel
theorem dX7_copyFrom_107 : decode cX7_copyFrom 107 = .ok (.return_, 1) := by decide +kernel
theorem dX7_allSeats_0 : decode cX7_allSeats 0 = .ok (.iconst 1, 1) := by decide +kernel
theorem dX7_allSeats_1 : decode cX7_allSeats 1 = .ok (.aload_n 0, 1) := by decide +kernel
theorem dX7_allSeats_2 : decode cX7_allSeats 2 = .ok (.getfield 27, 3) := by decide +kernel
theorem dX7_allSeats_5 : decode cX7_allSeats 5 = .ok (.ishl, 1) := by decide +kernel
theorem dX7_allSeats_6 : decode cX7_allSeats 6 = .ok (.iconst 1, 1) := by decide +kernel
theorem dX7_allSeats_7 : decode cX7_allSeats 7 = .ok (.isub, 1) := by decide +kernel
theorem dX7_allSeats_8 : decode cX7_allSeats 8 = .ok (.ireturn, 1) := by decide +kernel
theorem dX7_cutPlaces_0 : decode cX7_cutPlaces 0 = .ok (.iconst 0, 1) := by decide +kernel
theorem dX7_cutPlaces_1 : decode cX7_cutPlaces 1 = .ok (.istore_n 1, 1) := by decide +kernel
theorem dX7_cutPlaces_2 : decode cX7_cutPlaces 2 = .ok (.iconst 0, 1) := by decide +kernel
theorem dX7_cutPlaces_3 : decode cX7_cutPlaces 3 = .ok (.istore_n 2, 1) := by decide +kernel
theorem dX7_cutPlaces_4 : decode cX7_cutPlaces 4 = .ok (.iload_n 2, 1) := by decide +kernel
theorem dX7_cutPlaces_5 : decode cX7_cutPlaces 5 = .ok (.aload_n 0, 1) := by decide +kernel
theorem dX7_cutPlaces_6 : decode cX7_cutPlaces 6 = .ok (.getfield 27, 3) := by decide +kernel
theorem dX7_cutPlaces_9 : decode cX7_cutPlaces 9 = .ok (.iconst 1, 1) := by decide +kernel
theorem dX7_cutPlaces_10 : decode cX7_cutPlaces 10 = .ok (.isub, 1) := by decide +kernel
theorem dX7_cutPlaces_11 : decode cX7_cutPlaces 11 = .ok (.if_icmp .ge 24, 3) := by decide +kernel
theorem dX7_cutPlaces_14 : decode cX7_cutPlaces 14 = .ok (.aload_n 0, 1) := by decide +kernel
theorem dX7_cutPlaces_15 : decode cX7_cutPlaces 15 = .ok (.getfield 9, 3) := by decide +kernel
theorem dX7_cutPlaces_18 : decode cX7_cutPlaces 18 = .ok (.iload_n 2, 1) := by decide +kernel
theorem dX7_cutPlaces_19 : decode cX7_cutPlaces 19 = .ok (.iaload, 1) := by decide +kernel
theorem dX7_cutPlaces_20 : decode cX7_cutPlaces 20 = .ok (.ifCond .ne 9, 3) := by decide +kernel
theorem dX7_cutPlaces_23 : decode cX7_cutPlaces 23 = .ok (.iload_n 1, 1) := by decide +kernel
theorem dX7_cutPlaces_24 : decode cX7_cutPlaces 24 = .ok (.iconst 1, 1) := by decide +kernel
theorem dX7_cutPlaces_25 : decode cX7_cutPlaces 25 = .ok (.iload_n 2, 1) := by decide +kernel
theorem dX7_cutPlaces_26 : decode cX7_cutPlaces 26 = .ok (.ishl, 1) := by decide +kernel
theorem dX7_cutPlaces_27 : decode cX7_cutPlaces 27 = .ok (.ior, 1) := by decide +kernel
theorem dX7_cutPlaces_28 : decode cX7_cutPlaces 28 = .ok (.istore_n 1, 1) := by decide +kernel
theorem dX7_cutPlaces_29 : decode cX7_cutPlaces 29 = .ok (.iinc 2 1, 3) := by decide +kernel
theorem dX7_cutPlaces_32 : decode cX7_cutPlaces 32 = .ok (.goto (-28), 3) := by decide +kernel
theorem dX7_cutPlaces_35 : decode cX7_cutPlaces 35 = .ok (.iload_n 1, 1) := by decide +kernel
theorem dX7_cutPlaces_36 : decode cX7_cutPlaces 36 = .ok (.ireturn, 1) := by decide +kernel
theorem dX7_seenSeat_0 : decode cX7_seenSeat 0 = .ok (.aload_n 0, 1) := by decide +kernel
theorem dX7_seenSeat_1 : decode cX7_seenSeat 1 = .ok (.getfield 21, 3) := by decide +kernel
theorem dX7_seenSeat_4 : decode cX7_seenSeat 4 = .ok (.iload_n 1, 1) := by decide +kernel
theorem dX7_seenSeat_5 : decode cX7_seenSeat 5 = .ok (.bipush 12, 2) := by decide +kernel
theorem dX7_seenSeat_7 : decode cX7_seenSeat 7 = .ok (.imul, 1) := by decide +kernel
theorem dX7_seenSeat_8 : decode cX7_seenSeat 8 = .ok (.iload_n 2, 1) := by decide +kernel
theorem dX7_seenSeat_9 : decode cX7_seenSeat 9 = .ok (.iadd, 1) := by decide +kernel
theorem dX7_seenSeat_10 : decode cX7_seenSeat 10 = .ok (.iaload, 1) := by decide +kernel
theorem dX7_seenSeat_11 : decode cX7_seenSeat 11 = .ok (.ireturn, 1) := by decide +kernel
theorem dX7_noteSeen_0 : decode cX7_noteSeen 0 = .ok (.aload_n 0, 1) := by decide +kernel
theorem dX7_noteSeen_1 : decode cX7_noteSeen 1 = .ok (.getfield 24, 3) := by decide +kernel
theorem dX7_noteSeen_4 : decode cX7_noteSeen 4 = .ok (.iload_n 1, 1) := by decide +kernel
theorem dX7_noteSeen_5 : decode cX7_noteSeen 5 = .ok (.iaload, 1) := by decide +kernel
theorem dX7_noteSeen_6 : decode cX7_noteSeen 6 = .ok (.istore_n 3, 1) := by decide +kernel
theorem dX7_noteSeen_7 : decode cX7_noteSeen 7 = .ok (.iload_n 3, 1) := by decide +kernel
theorem dX7_noteSeen_8 : decode cX7_noteSeen 8 = .ok (.bipush 12, 2) := by decide +kernel
theorem dX7_noteSeen_10 : decode cX7_noteSeen 10 = .ok (.if_icmp .lt 5, 3) := by decide +kernel
theorem dX7_noteSeen_13 : decode cX7_noteSeen 13 = .ok (.iconst 0, 1) := by decide +kernel
theorem dX7_noteSeen_14 : decode cX7_noteSeen 14 = .ok (.ireturn, 1) := by decide +kernel
theorem dX7_noteSeen_15 : decode cX7_noteSeen 15 = .ok (.aload_n 0, 1) := by decide +kernel
theorem dX7_noteSeen_16 : decode cX7_noteSeen 16 = .ok (.getfield 21, 3) := by decide +kernel
theorem dX7_noteSeen_19 : decode cX7_noteSeen 19 = .ok (.iload_n 1, 1) := by decide +kernel
theorem dX7_noteSeen_20 : decode cX7_noteSeen 20 = .ok (.bipush 12, 2) := by decide +kernel
theorem dX7_noteSeen_22 : decode cX7_noteSeen 22 = .ok (.imul, 1) := by decide +kernel
theorem dX7_noteSeen_23 : decode cX7_noteSeen 23 = .ok (.iload_n 3, 1) := by decide +kernel
theorem dX7_noteSeen_24 : decode cX7_noteSeen 24 = .ok (.iadd, 1) := by decide +kernel
theorem dX7_noteSeen_25 : decode cX7_noteSeen 25 = .ok (.iload_n 2, 1) := by decide +kernel
theorem dX7_noteSeen_26 : decode cX7_noteSeen 26 = .ok (.iastore, 1) := by decide +kernel
theorem dX7_noteSeen_27 : decode cX7_noteSeen 27 = .ok (.aload_n 0, 1) := by decide +kernel
theorem dX7_noteSeen_28 : decode cX7_noteSeen 28 = .ok (.getfield 24, 3) := by decide +kernel
theorem dX7_noteSeen_31 : decode cX7_noteSeen 31 = .ok (.iload_n 1, 1) := by decide +kernel
theorem dX7_noteSeen_32 : decode cX7_noteSeen 32 = .ok (.iload_n 3, 1) := by decide +kernel
theorem dX7_noteSeen_33 : decode cX7_noteSeen 33 = .ok (.iconst 1, 1) := by decide +kernel
theorem dX7_noteSeen_34 : decode cX7_noteSeen 34 = .ok (.iadd, 1) := by decide +kernel
theorem dX7_noteSeen_35 : decode cX7_noteSeen 35 = .ok (.iastore, 1) := by decide +kernel
theorem dX7_noteSeen_36 : decode cX7_noteSeen 36 = .ok (.iconst 1, 1) := by decide +kernel
theorem dX7_noteSeen_37 : decode cX7_noteSeen 37 = .ok (.ireturn, 1) := by decide +kernel
theorem dX8_init_0 : decode cX8_init 0 = .ok (.aload_n 0, 1) := by decide +kernel
theorem dX8_init_1 : decode cX8_init 1 = .ok (.invokespecial 3, 3) := by decide +kernel
theorem dX8_init_4 : decode cX8_init 4 = .ok (.aload_n 0, 1) := by decide +kernel
theorem dX8_init_5 : decode cX8_init 5 = .ok (.sipush 4096, 3) := by decide +kernel
theorem dX8_init_8 : decode cX8_init 8 = .ok (.newarray .int, 2) := by decide +kernel
theorem dX8_init_10 : decode cX8_init 10 = .ok (.putfield 9, 3) := by decide +kernel
theorem dX8_init_13 : decode cX8_init 13 = .ok (.aload_n 0, 1) := by decide +kernel
theorem dX8_init_14 : decode cX8_init 14 = .ok (.sipush 4096, 3) := by decide +kernel
theorem dX8_init_17 : decode cX8_init 17 = .ok (.newarray .int, 2) := by decide +kernel
theorem dX8_init_19 : decode cX8_init 19 = .ok (.putfield 15, 3) := by decide +kernel
theorem dX8_init_22 : decode cX8_init 22 = .ok (.aload_n 0, 1) := by decide +kernel
theorem dX8_init_23 : decode cX8_init 23 = .ok (.sipush 4096, 3) := by decide +kernel
theorem dX8_init_26 : decode cX8_init 26 = .ok (.newarray .int, 2) := by decide +kernel
theorem dX8_init_28 : decode cX8_init 28 = .ok (.putfield 18, 3) := by decide +kernel
theorem dX8_init_31 : decode cX8_init 31 = .ok (.return_, 1) := by decide +kernel
theorem dX8_list_0 : decode cX8_list 0 = .ok (.aload_n 0, 1) := by decide +kernel
theorem dX8_list_1 : decode cX8_list 1 = .ok (.getfield 9, 3) := by decide +kernel
theorem dX8_list_4 : decode cX8_list 4 = .ok (.iconst 0, 1) := by decide +kernel
theorem dX8_list_5 : decode cX8_list 5 = .ok (.iconst 0, 1) := by decide +kernel
theorem dX8_list_6 : decode cX8_list 6 = .ok (.iastore, 1) := by decide +kernel
theorem dX8_list_7 : decode cX8_list 7 = .ok (.aload_n 0, 1) := by decide +kernel
theorem dX8_list_8 : decode cX8_list 8 = .ok (.getfield 15, 3) := by decide +kernel
theorem dX8_list_11 : decode cX8_list 11 = .ok (.iconst 0, 1) := by decide +kernel
theorem dX8_list_12 : decode cX8_list 12 = .ok (.iload_n 3, 1) := by decide +kernel
theorem dX8_list_13 : decode cX8_list 13 = .ok (.iastore, 1) := by decide +kernel
theorem dX8_list_14 : decode cX8_list 14 = .ok (.aload_n 0, 1) := by decide +kernel
theorem dX8_list_15 : decode cX8_list 15 = .ok (.iconst 1, 1) := by decide +kernel
theorem dX8_list_16 : decode cX8_list 16 = .ok (.putfield 21, 3) := by decide +kernel
theorem dX8_list_19 : decode cX8_list 19 = .ok (.aload_n 0, 1) := by decide +kernel
theorem dX8_list_20 : decode cX8_list 20 = .ok (.iload_n 2, 1) := by decide +kernel
theorem dX8_list_21 : decode cX8_list 21 = .ok (.putfield 25, 3) := by decide +kernel
theorem dX8_list_24 : decode cX8_list 24 = .ok (.iconst 0, 1) := by decide +kernel
theorem dX8_list_25 : decode cX8_list 25 = .ok (.istore 4, 2) := by decide +kernel
theorem dX8_list_27 : decode cX8_list 27 = .ok (.iload 4, 2) := by decide +kernel
theorem dX8_list_29 : decode cX8_list 29 = .ok (.iload_n 2, 1) := by decide +kernel
theorem dX8_list_30 : decode cX8_list 30 = .ok (.if_icmp .ge 110, 3) := by decide +kernel
theorem dX8_list_33 : decode cX8_list 33 = .ok (.aload_n 0, 1) := by decide +kernel
theorem dX8_list_34 : decode cX8_list 34 = .ok (.getfield 21, 3) := by decide +kernel
theorem dX8_list_37 : decode cX8_list 37 = .ok (.istore 5, 2) := by decide +kernel
theorem dX8_list_39 : decode cX8_list 39 = .ok (.iconst 0, 1) := by decide +kernel
theorem dX8_list_40 : decode cX8_list 40 = .ok (.istore 6, 2) := by decide +kernel
theorem dX8_list_42 : decode cX8_list 42 = .ok (.iload 6, 2) := by decide +kernel
theorem dX8_list_44 : decode cX8_list 44 = .ok (.iload 5, 2) := by decide +kernel
theorem dX8_list_46 : decode cX8_list 46 = .ok (.if_icmp .ge 88, 3) := by decide +kernel
theorem dX8_list_49 : decode cX8_list 49 = .ok (.aload_n 0, 1) := by decide +kernel
theorem dX8_list_50 : decode cX8_list 50 = .ok (.getfield 21, 3) := by decide +kernel
theorem dX8_list_53 : decode cX8_list 53 = .ok (.sipush 4096, 3) := by decide +kernel
theorem dX8_list_56 : decode cX8_list 56 = .ok (.if_icmp .ge 78, 3) := by decide +kernel
theorem dX8_list_59 : decode cX8_list 59 = .ok (.aload_n 0, 1) := by decide +kernel
theorem dX8_list_60 : decode cX8_list 60 = .ok (.getfield 15, 3) := by decide +kernel
theorem dX8_list_63 : decode cX8_list 63 = .ok (.iload 6, 2) := by decide +kernel
theorem dX8_list_65 : decode cX8_list 65 = .ok (.iaload, 1) := by decide +kernel
theorem dX8_list_66 : decode cX8_list 66 = .ok (.iload 4, 2) := by decide +kernel
theorem dX8_list_68 : decode cX8_list 68 = .ok (.ishr, 1) := by decide +kernel
theorem dX8_list_69 : decode cX8_list 69 = .ok (.iconst 1, 1) := by decide +kernel
theorem dX8_list_70 : decode cX8_list 70 = .ok (.iand, 1) := by decide +kernel
theorem dX8_list_71 : decode cX8_list 71 = .ok (.ifCond .eq 57, 3) := by decide +kernel
theorem dX8_list_74 : decode cX8_list 74 = .ok (.aload_n 0, 1) := by decide +kernel
theorem dX8_list_75 : decode cX8_list 75 = .ok (.getfield 9, 3) := by decide +kernel
theorem dX8_list_78 : decode cX8_list 78 = .ok (.aload_n 0, 1) := by decide +kernel
theorem dX8_list_79 : decode cX8_list 79 = .ok (.getfield 21, 3) := by decide +kernel
theorem dX8_list_82 : decode cX8_list 82 = .ok (.aload_n 0, 1) := by decide +kernel
theorem dX8_list_83 : decode cX8_list 83 = .ok (.getfield 9, 3) := by decide +kernel
theorem dX8_list_86 : decode cX8_list 86 = .ok (.iload 6, 2) := by decide +kernel
theorem dX8_list_88 : decode cX8_list 88 = .ok (.iaload, 1) := by decide +kernel
theorem dX8_list_89 : decode cX8_list 89 = .ok (.iconst 1, 1) := by decide +kernel
theorem dX8_list_90 : decode cX8_list 90 = .ok (.iload 4, 2) := by decide +kernel
theorem dX8_list_92 : decode cX8_list 92 = .ok (.ishl, 1) := by decide +kernel
theorem dX8_list_93 : decode cX8_list 93 = .ok (.ior, 1) := by decide +kernel
theorem dX8_list_94 : decode cX8_list 94 = .ok (.iastore, 1) := by decide +kernel
theorem dX8_list_95 : decode cX8_list 95 = .ok (.aload_n 0, 1) := by decide +kernel
theorem dX8_list_96 : decode cX8_list 96 = .ok (.getfield 15, 3) := by decide +kernel
theorem dX8_list_99 : decode cX8_list 99 = .ok (.aload_n 0, 1) := by decide +kernel
theorem dX8_list_100 : decode cX8_list 100 = .ok (.getfield 21, 3) := by decide +kernel
theorem dX8_list_103 : decode cX8_list 103 = .ok (.aload_n 0, 1) := by decide +kernel
theorem dX8_list_104 : decode cX8_list 104 = .ok (.getfield 15, 3) := by decide +kernel
theorem dX8_list_107 : decode cX8_list 107 = .ok (.iload 6, 2) := by decide +kernel
theorem dX8_list_109 : decode cX8_list 109 = .ok (.iaload, 1) := by decide +kernel
theorem dX8_list_110 : decode cX8_list 110 = .ok (.aload_n 1, 1) := by decide +kernel
theorem dX8_list_111 : decode cX8_list 111 = .ok (.iload 4, 2) := by decide +kernel
theorem dX8_list_113 : decode cX8_list 113 = .ok (.iaload, 1) := by decide +kernel
theorem dX8_list_114 : decode cX8_list 114 = .ok (.iconst (-1), 1) := by decide +kernel
theorem dX8_list_115 : decode cX8_list 115 = .ok (.ixor, 1) := by decide +kernel
theorem dX8_list_116 : decode cX8_list 116 = .ok (.iand, 1) := by decide +kernel
theorem dX8_list_117 : decode cX8_list 117 = .ok (.iastore, 1) := by decide +kernel
theorem dX8_list_118 : decode cX8_list 118 = .ok (.aload_n 0, 1) := by decide +kernel
theorem dX8_list_119 : decode cX8_list 119 = .ok (.dup, 1) := by decide +kernel
theorem dX8_list_120 : decode cX8_list 120 = .ok (.getfield 21, 3) := by decide +kernel
theorem dX8_list_123 : decode cX8_list 123 = .ok (.iconst 1, 1) := by decide +kernel
theorem dX8_list_124 : decode cX8_list 124 = .ok (.iadd, 1) := by decide +kernel
theorem dX8_list_125 : decode cX8_list 125 = .ok (.putfield 21, 3) := by decide +kernel
theorem dX8_list_128 : decode cX8_list 128 = .ok (.iinc 6 1, 3) := by decide +kernel
theorem dX8_list_131 : decode cX8_list 131 = .ok (.goto (-89), 3) := by decide +kernel
theorem dX8_list_134 : decode cX8_list 134 = .ok (.iinc 4 1, 3) := by decide +kernel
theorem dX8_list_137 : decode cX8_list 137 = .ok (.goto (-110), 3) := by decide +kernel
theorem dX8_list_140 : decode cX8_list 140 = .ok (.return_, 1) := by decide +kernel
theorem dX8_mostIn_0 : decode cX8_mostIn 0 = .ok (.iconst 0, 1) := by decide +kernel
theorem dX8_mostIn_1 : decode cX8_mostIn 1 = .ok (.istore_n 1, 1) := by decide +kernel
theorem dX8_mostIn_2 : decode cX8_mostIn 2 = .ok (.iconst 0, 1) := by decide +kernel
theorem dX8_mostIn_3 : decode cX8_mostIn 3 = .ok (.istore_n 2, 1) := by decide +kernel
theorem dX8_mostIn_4 : decode cX8_mostIn 4 = .ok (.iload_n 2, 1) := by decide +kernel
theorem dX8_mostIn_5 : decode cX8_mostIn 5 = .ok (.aload_n 0, 1) := by decide +kernel
theorem dX8_mostIn_6 : decode cX8_mostIn 6 = .ok (.getfield 21, 3) := by decide +kernel
theorem dX8_mostIn_9 : decode cX8_mostIn 9 = .ok (.if_icmp .ge 23, 3) := by decide +kernel
theorem dX8_mostIn_12 : decode cX8_mostIn 12 = .ok (.iload_n 1, 1) := by decide +kernel
theorem dX8_mostIn_13 : decode cX8_mostIn 13 = .ok (.aload_n 0, 1) := by decide +kernel
theorem dX8_mostIn_14 : decode cX8_mostIn 14 = .ok (.getfield 9, 3) := by decide +kernel
theorem dX8_mostIn_17 : decode cX8_mostIn 17 = .ok (.iload_n 2, 1) := by decide +kernel
theorem dX8_mostIn_18 : decode cX8_mostIn 18 = .ok (.iaload, 1) := by decide +kernel
theorem dX8_mostIn_19 : decode cX8_mostIn 19 = .ok (.invokestatic 28, 3) := by decide +kernel
theorem dX8_mostIn_22 : decode cX8_mostIn 22 = .ok (.invokestatic 34, 3) := by decide +kernel
theorem dX8_mostIn_25 : decode cX8_mostIn 25 = .ok (.istore_n 1, 1) := by decide +kernel
theorem dX8_mostIn_26 : decode cX8_mostIn 26 = .ok (.iinc 2 1, 3) := by decide +kernel
theorem dX8_mostIn_29 : decode cX8_mostIn 29 = .ok (.goto (-25), 3) := by decide +kernel
theorem dX8_mostIn_32 : decode cX8_mostIn 32 = .ok (.iload_n 1, 1) := by decide +kernel
theorem dX8_mostIn_33 : decode cX8_mostIn 33 = .ok (.ireturn, 1) := by decide +kernel
theorem dX8_spreadChances_0 : decode cX8_spreadChances 0 = .ok (.iconst 0, 1) := by decide +kernel
theorem dX8_spreadChances_1 : decode cX8_spreadChances 1 = .ok (.istore_n 1, 1) := by decide +kernel
theorem dX8_spreadChances_2 : decode cX8_spreadChances 2 = .ok (.iload_n 1, 1) := by decide +kernel
theorem dX8_spreadChances_3 : decode cX8_spreadChances 3 = .ok (.aload_n 0, 1) := by decide +kernel
theorem dX8_spreadChances_4 : decode cX8_spreadChances 4 = .ok (.getfield 21, 3) := by decide +kernel
theorem dX8_spreadChances_7 : decode cX8_spreadChances 7 = .ok (.if_icmp .ge 21, 3) := by decide +kernel
theorem dX8_spreadChances_10 : decode cX8_spreadChances 10 = .ok (.aload_n 0, 1) := by decide +kernel
theorem dX8_spreadChances_11 : decode cX8_spreadChances 11 = .ok (.getfield 18, 3) := by decide +kernel
theorem dX8_spreadChances_14 : decode cX8_spreadChances 14 = .ok (.aload_n 0, 1) := by decide +kernel
theorem dX8_spreadChances_15 : decode cX8_spreadChances 15 = .ok (.getfield 9, 3) := by decide +kernel
theorem dX8_spreadChances_18 : decode cX8_spreadChances 18 = .ok (.iload_n 1, 1) := by decide +kernel
theorem dX8_spreadChances_19 : decode cX8_spreadChances 19 = .ok (.iaload, 1) := by decide +kernel
theorem dX8_spreadChances_20 : decode cX8_spreadChances 20 = .ok (.iconst 0, 1) := by decide +kernel
theorem dX8_spreadChances_21 : decode cX8_spreadChances 21 = .ok (.iastore, 1) := by decide +kernel
theorem dX8_spreadChances_22 : decode cX8_spreadChances 22 = .ok (.iinc 1 1, 3) := by decide +kernel
theorem dX8_spreadChances_25 : decode cX8_spreadChances 25 = .ok (.goto (-23), 3) := by decide +kernel
theorem dX8_spreadChances_28 : decode cX8_spreadChances 28 = .ok (.aload_n 0, 1) := by decide +kernel
theorem dX8_spreadChances_29 : decode cX8_spreadChances 29 = .ok (.getfield 18, 3) := by decide +kernel
theorem dX8_spreadChances_32 : decode cX8_spreadChances 32 = .ok (.iconst 0, 1) := by decide +kernel
theorem dX8_spreadChances_33 : decode cX8_spreadChances 33 = .ok (.ldc 40, 2) := by decide +kernel
theorem dX8_spreadChances_35 : decode cX8_spreadChances 35 = .ok (.iastore, 1) := by decide +kernel
theorem dX8_spreadChances_36 : decode cX8_spreadChances 36 = .ok (.iconst 0, 1) := by decide +kernel
theorem dX8_spreadChances_37 : decode cX8_spreadChances 37 = .ok (.istore_n 1, 1) := by decide +kernel
theorem dX8_spreadChances_38 : decode cX8_spreadChances 38 = .ok (.iload_n 1, 1) := by decide +kernel
theorem dX8_spreadChances_39 : decode cX8_spreadChances 39 = .ok (.aload_n 0, 1) := by decide +kernel
theorem dX8_spreadChances_40 : decode cX8_spreadChances 40 = .ok (.getfield 21, 3) := by decide +kernel
theorem dX8_spreadChances_43 : decode cX8_spreadChances 43 = .ok (.if_icmp .ge 92, 3) := by decide +kernel
theorem dX8_spreadChances_46 : decode cX8_spreadChances 46 = .ok (.aload_n 0, 1) := by decide +kernel
theorem dX8_spreadChances_47 : decode cX8_spreadChances 47 = .ok (.getfield 15, 3) := by decide +kernel
theorem dX8_spreadChances_50 : decode cX8_spreadChances 50 = .ok (.iload_n 1, 1) := by decide +kernel
theorem dX8_spreadChances_51 : decode cX8_spreadChances 51 = .ok (.iaload, 1) := by decide +kernel
theorem dX8_spreadChances_52 : decode cX8_spreadChances 52 = .ok (.invokestatic 28, 3) := by decide +kernel
theorem dX8_spreadChances_55 : decode cX8_spreadChances 55 = .ok (.istore_n 2, 1) := by decide +kernel
theorem dX8_spreadChances_56 : decode cX8_spreadChances 56 = .ok (.iload_n 2, 1) := by decide +kernel
theorem dX8_spreadChances_57 : decode cX8_spreadChances 57 = .ok (.ifCond .ne 6, 3) := by decide +kernel
theorem dX8_spreadChances_60 : decode cX8_spreadChances 60 = .ok (.goto 69, 3) := by decide +kernel
theorem dX8_spreadChances_63 : decode cX8_spreadChances 63 = .ok (.aload_n 0, 1) := by decide +kernel
theorem dX8_spreadChances_64 : decode cX8_spreadChances 64 = .ok (.getfield 18, 3) := by decide +kernel
theorem dX8_spreadChances_67 : decode cX8_spreadChances 67 = .ok (.aload_n 0, 1) := by decide +kernel
theorem dX8_spreadChances_68 : decode cX8_spreadChances 68 = .ok (.getfield 9, 3) := by decide +kernel
theorem dX8_spreadChances_71 : decode cX8_spreadChances 71 = .ok (.iload_n 1, 1) := by decide +kernel
theorem dX8_spreadChances_72 : decode cX8_spreadChances 72 = .ok (.iaload, 1) := by decide +kernel
theorem dX8_spreadChances_73 : decode cX8_spreadChances 73 = .ok (.iaload, 1) := by decide +kernel
theorem dX8_spreadChances_74 : decode cX8_spreadChances 74 = .ok (.iload_n 2, 1) := by decide +kernel
theorem dX8_spreadChances_75 : decode cX8_spreadChances 75 = .ok (.idiv, 1) := by decide +kernel
theorem dX8_spreadChances_76 : decode cX8_spreadChances 76 = .ok (.istore_n 3, 1) := by decide +kernel
theorem dX8_spreadChances_77 : decode cX8_spreadChances 77 = .ok (.iconst 0, 1) := by decide +kernel
theorem dX8_spreadChances_78 : decode cX8_spreadChances 78 = .ok (.istore 4, 2) := by decide +kernel
theorem dX8_spreadChances_80 : decode cX8_spreadChances 80 = .ok (.iload 4, 2) := by decide +kernel
theorem dX8_spreadChances_82 : decode cX8_spreadChances 82 = .ok (.aload_n 0, 1) := by decide +kernel
theorem dX8_spreadChances_83 : decode cX8_spreadChances 83 = .ok (.getfield 25, 3) := by decide +kernel
theorem dX8_spreadChances_86 : decode cX8_spreadChances 86 = .ok (.if_icmp .ge 43, 3) := by decide +kernel
theorem dX8_spreadChances_89 : decode cX8_spreadChances 89 = .ok (.aload_n 0, 1) := by decide +kernel
theorem dX8_spreadChances_90 : decode cX8_spreadChances 90 = .ok (.getfield 15, 3) := by decide +kernel
theorem dX8_spreadChances_93 : decode cX8_spreadChances 93 = .ok (.iload_n 1, 1) := by decide +kernel
theorem dX8_spreadChances_94 : decode cX8_spreadChances 94 = .ok (.iaload, 1) := by decide +kernel
theorem dX8_spreadChances_95 : decode cX8_spreadChances 95 = .ok (.iload 4, 2) := by decide +kernel
theorem dX8_spreadChances_97 : decode cX8_spreadChances 97 = .ok (.ishr, 1) := by decide +kernel
theorem dX8_spreadChances_98 : decode cX8_spreadChances 98 = .ok (.iconst 1, 1) := by decide +kernel
theorem dX8_spreadChances_99 : decode cX8_spreadChances 99 = .ok (.iand, 1) := by decide +kernel
theorem dX8_spreadChances_100 : decode cX8_spreadChances 100 = .ok (.ifCond .eq 23, 3) := by decide +kernel
theorem dX8_spreadChances_103 : decode cX8_spreadChances 103 = .ok (.aload_n 0, 1) := by decide +kernel
theorem dX8_spreadChances_104 : decode cX8_spreadChances 104 = .ok (.getfield 18, 3) := by decide +kernel
theorem dX8_spreadChances_107 : decode cX8_spreadChances 107 = .ok (.aload_n 0, 1) := by decide +kernel
theorem dX8_spreadChances_108 : decode cX8_spreadChances 108 = .ok (.getfield 9, 3) := by decide +kernel
theorem dX8_spreadChances_111 : decode cX8_spreadChances 111 = .ok (.iload_n 1, 1) := by decide +kernel
theorem dX8_spreadChances_112 : decode cX8_spreadChances 112 = .ok (.iaload, 1) := by decide +kernel
theorem dX8_spreadChances_113 : decode cX8_spreadChances 113 = .ok (.iconst 1, 1) := by decide +kernel
theorem dX8_spreadChances_114 : decode cX8_spreadChances 114 = .ok (.iload 4, 2) := by decide +kernel
theorem dX8_spreadChances_116 : decode cX8_spreadChances 116 = .ok (.ishl, 1) := by decide +kernel
theorem dX8_spreadChances_117 : decode cX8_spreadChances 117 = .ok (.ior, 1) := by decide +kernel
theorem dX8_spreadChances_118 : decode cX8_spreadChances 118 = .ok (.dup2, 1) := by decide +kernel
theorem dX8_spreadChances_119 : decode cX8_spreadChances 119 = .ok (.iaload, 1) := by decide +kernel
theorem dX8_spreadChances_120 : decode cX8_spreadChances 120 = .ok (.iload_n 3, 1) := by decide +kernel
theorem dX8_spreadChances_121 : decode cX8_spreadChances 121 = .ok (.iadd, 1) := by decide +kernel
theorem dX8_spreadChances_122 : decode cX8_spreadChances 122 = .ok (.iastore, 1) := by decide +kernel
theorem dX8_spreadChances_123 : decode cX8_spreadChances 123 = .ok (.iinc 4 1, 3) := by decide +kernel
theorem dX8_spreadChances_126 : decode cX8_spreadChances 126 = .ok (.goto (-46), 3) := by decide +kernel
theorem dX8_spreadChances_129 : decode cX8_spreadChances 129 = .ok (.iinc 1 1, 3) := by decide +kernel
theorem dX8_spreadChances_132 : decode cX8_spreadChances 132 = .ok (.goto (-94), 3) := by decide +kernel
theorem dX8_spreadChances_135 : decode cX8_spreadChances 135 = .ok (.return_, 1) := by decide +kernel
theorem dX8_sumOfSitters_0 : decode cX8_sumOfSitters 0 = .ok (.lconst 0, 1) := by decide +kernel
theorem dX8_sumOfSitters_1 : decode cX8_sumOfSitters 1 = .ok (.lstore_n 2, 1) := by decide +kernel
theorem dX8_sumOfSitters_2 : decode cX8_sumOfSitters 2 = .ok (.aload_n 1, 1) := by decide +kernel
theorem dX8_sumOfSitters_3 : decode cX8_sumOfSitters 3 = .ok (.getfield 41, 3) := by decide +kernel
theorem dX8_sumOfSitters_6 : decode cX8_sumOfSitters 6 = .ok (.invokevirtual 47, 3) := by decide +kernel
theorem dX8_sumOfSitters_9 : decode cX8_sumOfSitters 9 = .ok (.istore 4, 2) := by decide +kernel
theorem dX8_sumOfSitters_11 : decode cX8_sumOfSitters 11 = .ok (.iconst 0, 1) := by decide +kernel
theorem dX8_sumOfSitters_12 : decode cX8_sumOfSitters 12 = .ok (.istore 5, 2) := by decide +kernel
theorem dX8_sumOfSitters_14 : decode cX8_sumOfSitters 14 = .ok (.iload 5, 2) := by decide +kernel
theorem dX8_sumOfSitters_16 : decode cX8_sumOfSitters 16 = .ok (.aload_n 1, 1) := by decide +kernel
theorem dX8_sumOfSitters_17 : decode cX8_sumOfSitters 17 = .ok (.getfield 41, 3) := by decide +kernel
theorem dX8_sumOfSitters_20 : decode cX8_sumOfSitters 20 = .ok (.getfield 53, 3) := by decide +kernel
theorem dX8_sumOfSitters_23 : decode cX8_sumOfSitters 23 = .ok (.if_icmp .ge 46, 3) := by decide +kernel
theorem dX8_sumOfSitters_26 : decode cX8_sumOfSitters 26 = .ok (.iload 4, 2) := by decide +kernel
theorem dX8_sumOfSitters_28 : decode cX8_sumOfSitters 28 = .ok (.iload 5, 2) := by decide +kernel
theorem dX8_sumOfSitters_30 : decode cX8_sumOfSitters 30 = .ok (.ishr, 1) := by decide +kernel
theorem dX8_sumOfSitters_31 : decode cX8_sumOfSitters 31 = .ok (.iconst 1, 1) := by decide +kernel
theorem dX8_sumOfSitters_32 : decode cX8_sumOfSitters 32 = .ok (.iand, 1) := by decide +kernel
theorem dX8_sumOfSitters_33 : decode cX8_sumOfSitters 33 = .ok (.ifCond .eq 30, 3) := by decide +kernel
theorem dX8_sumOfSitters_36 : decode cX8_sumOfSitters 36 = .ok (.aload_n 1, 1) := by decide +kernel
theorem dX8_sumOfSitters_37 : decode cX8_sumOfSitters 37 = .ok (.iload 5, 2) := by decide +kernel
theorem dX8_sumOfSitters_39 : decode cX8_sumOfSitters 39 = .ok (.invokestatic 56, 3) := by decide +kernel
theorem dX8_sumOfSitters_42 : decode cX8_sumOfSitters 42 = .ok (.istore 6, 2) := by decide +kernel
theorem dX8_sumOfSitters_44 : decode cX8_sumOfSitters 44 = .ok (.iload 4, 2) := by decide +kernel
theorem dX8_sumOfSitters_46 : decode cX8_sumOfSitters 46 = .ok (.iload 6, 2) := by decide +kernel
theorem dX8_sumOfSitters_48 : decode cX8_sumOfSitters 48 = .ok (.iconst (-1), 1) := by decide +kernel
theorem dX8_sumOfSitters_49 : decode cX8_sumOfSitters 49 = .ok (.ixor, 1) := by decide +kernel
theorem dX8_sumOfSitters_50 : decode cX8_sumOfSitters 50 = .ok (.iand, 1) := by decide +kernel
theorem dX8_sumOfSitters_51 : decode cX8_sumOfSitters 51 = .ok (.istore 4, 2) := by decide +kernel
theorem dX8_sumOfSitters_53 : decode cX8_sumOfSitters 53 = .ok (.lload_n 2, 1) := by decide +kernel
theorem dX8_sumOfSitters_54 : decode cX8_sumOfSitters 54 = .ok (.aload_n 0, 1) := by decide +kernel
theorem dX8_sumOfSitters_55 : decode cX8_sumOfSitters 55 = .ok (.aload_n 1, 1) := by decide +kernel
theorem dX8_sumOfSitters_56 : decode cX8_sumOfSitters 56 = .ok (.iload 6, 2) := by decide +kernel
theorem dX8_sumOfSitters_58 : decode cX8_sumOfSitters 58 = .ok (.invokevirtual 60, 3) := by decide +kernel
theorem dX8_sumOfSitters_61 : decode cX8_sumOfSitters 61 = .ok (.ladd, 1) := by decide +kernel
theorem dX8_sumOfSitters_62 : decode cX8_sumOfSitters 62 = .ok (.lstore_n 2, 1) := by decide +kernel
theorem dX8_sumOfSitters_63 : decode cX8_sumOfSitters 63 = .ok (.iinc 5 1, 3) := by decide +kernel
theorem dX8_sumOfSitters_66 : decode cX8_sumOfSitters 66 = .ok (.goto (-52), 3) := by decide +kernel
theorem dX8_sumOfSitters_69 : decode cX8_sumOfSitters 69 = .ok (.lload_n 2, 1) := by decide +kernel
theorem dX8_sumOfSitters_70 : decode cX8_sumOfSitters 70 = .ok (.lreturn, 1) := by decide +kernel
theorem dX8_sumWithin_0 : decode cX8_sumWithin 0 = .ok (.lconst 0, 1) := by decide +kernel
theorem dX8_sumWithin_1 : decode cX8_sumWithin 1 = .ok (.lstore_n 3, 1) := by decide +kernel
theorem dX8_sumWithin_2 : decode cX8_sumWithin 2 = .ok (.aload_n 0, 1) := by decide +kernel
theorem dX8_sumWithin_3 : decode cX8_sumWithin 3 = .ok (.aload_n 1, 1) := by decide +kernel
theorem dX8_sumWithin_4 : decode cX8_sumWithin 4 = .ok (.getfield 64, 3) := by decide +kernel
theorem dX8_sumWithin_7 : decode cX8_sumWithin 7 = .ok (.aload_n 1, 1) := by decide +kernel
theorem dX8_sumWithin_8 : decode cX8_sumWithin 8 = .ok (.getfield 41, 3) := by decide +kernel
theorem dX8_sumWithin_11 : decode cX8_sumWithin 11 = .ok (.getfield 53, 3) := by decide +kernel
theorem dX8_sumWithin_14 : decode cX8_sumWithin 14 = .ok (.iload_n 2, 1) := by decide +kernel
theorem dX8_sumWithin_15 : decode cX8_sumWithin 15 = .ok (.invokevirtual 67, 3) := by decide +kernel
theorem dX8_sumWithin_18 : decode cX8_sumWithin 18 = .ok (.aload_n 0, 1) := by decide +kernel
theorem dX8_sumWithin_19 : decode cX8_sumWithin 19 = .ok (.invokevirtual 71, 3) := by decide +kernel
theorem dX8_sumWithin_22 : decode cX8_sumWithin 22 = .ok (.iconst 0, 1) := by decide +kernel
theorem dX8_sumWithin_23 : decode cX8_sumWithin 23 = .ok (.istore 5, 2) := by decide +kernel
theorem dX8_sumWithin_25 : decode cX8_sumWithin 25 = .ok (.iload 5, 2) := by decide +kernel
theorem dX8_sumWithin_27 : decode cX8_sumWithin 27 = .ok (.aload_n 0, 1) := by decide +kernel
theorem dX8_sumWithin_28 : decode cX8_sumWithin 28 = .ok (.getfield 21, 3) := by decide +kernel
theorem dX8_sumWithin_31 : decode cX8_sumWithin 31 = .ok (.if_icmp .ge 47, 3) := by decide +kernel
theorem dX8_sumWithin_34 : decode cX8_sumWithin 34 = .ok (.aload_n 0, 1) := by decide +kernel
theorem dX8_sumWithin_35 : decode cX8_sumWithin 35 = .ok (.getfield 15, 3) := by decide +kernel
theorem dX8_sumWithin_38 : decode cX8_sumWithin 38 = .ok (.iload 5, 2) := by decide +kernel
theorem dX8_sumWithin_40 : decode cX8_sumWithin 40 = .ok (.iaload, 1) := by decide +kernel
theorem dX8_sumWithin_41 : decode cX8_sumWithin 41 = .ok (.ifCond .ne 31, 3) := by decide +kernel
theorem dX8_sumWithin_44 : decode cX8_sumWithin 44 = .ok (.lload_n 3, 1) := by decide +kernel
theorem dX8_sumWithin_45 : decode cX8_sumWithin 45 = .ok (.aload_n 0, 1) := by decide +kernel
theorem dX8_sumWithin_46 : decode cX8_sumWithin 46 = .ok (.getfield 9, 3) := by decide +kernel
theorem dX8_sumWithin_49 : decode cX8_sumWithin 49 = .ok (.iload 5, 2) := by decide +kernel
theorem dX8_sumWithin_51 : decode cX8_sumWithin 51 = .ok (.iaload, 1) := by decide +kernel
theorem dX8_sumWithin_52 : decode cX8_sumWithin 52 = .ok (.invokestatic 28, 3) := by decide +kernel
theorem dX8_sumWithin_55 : decode cX8_sumWithin 55 = .ok (.i2l, 1) := by decide +kernel
theorem dX8_sumWithin_56 : decode cX8_sumWithin 56 = .ok (.aload_n 0, 1) := by decide +kernel
theorem dX8_sumWithin_57 : decode cX8_sumWithin 57 = .ok (.getfield 18, 3) := by decide +kernel
theorem dX8_sumWithin_60 : decode cX8_sumWithin 60 = .ok (.aload_n 0, 1) := by decide +kernel
theorem dX8_sumWithin_61 : decode cX8_sumWithin 61 = .ok (.getfield 9, 3) := by decide +kernel
theorem dX8_sumWithin_64 : decode cX8_sumWithin 64 = .ok (.iload 5, 2) := by decide +kernel
theorem dX8_sumWithin_66 : decode cX8_sumWithin 66 = .ok (.iaload, 1) := by decide +kernel
theorem dX8_sumWithin_67 : decode cX8_sumWithin 67 = .ok (.iaload, 1) := by decide +kernel
theorem dX8_sumWithin_68 : decode cX8_sumWithin 68 = .ok (.i2l, 1) := by decide +kernel
theorem dX8_sumWithin_69 : decode cX8_sumWithin 69 = .ok (.lmul, 1) := by decide +kernel
theorem dX8_sumWithin_70 : decode cX8_sumWithin 70 = .ok (.ladd, 1) := by decide +kernel
theorem dX8_sumWithin_71 : decode cX8_sumWithin 71 = .ok (.lstore_n 3, 1) := by decide +kernel
theorem dX8_sumWithin_72 : decode cX8_sumWithin 72 = .ok (.iinc 5 1, 3) := by decide +kernel
theorem dX8_sumWithin_75 : decode cX8_sumWithin 75 = .ok (.goto (-50), 3) := by decide +kernel
theorem dX8_sumWithin_78 : decode cX8_sumWithin 78 = .ok (.lload_n 3, 1) := by decide +kernel
theorem dX8_sumWithin_79 : decode cX8_sumWithin 79 = .ok (.lreturn, 1) := by decide +kernel
theorem dX8_groupOf_0 : decode cX8_groupOf 0 = .ok (.iconst 1, 1) := by decide +kernel
theorem dX8_groupOf_1 : decode cX8_groupOf 1 = .ok (.iload_n 1, 1) := by decide +kernel
theorem dX8_groupOf_2 : decode cX8_groupOf 2 = .ok (.ishl, 1) := by decide +kernel
theorem dX8_groupOf_3 : decode cX8_groupOf 3 = .ok (.istore_n 2, 1) := by decide +kernel
theorem dX8_groupOf_4 : decode cX8_groupOf 4 = .ok (.iconst 0, 1) := by decide +kernel
theorem dX8_groupOf_5 : decode cX8_groupOf 5 = .ok (.istore_n 3, 1) := by decide +kernel
theorem dX8_groupOf_6 : decode cX8_groupOf 6 = .ok (.iload_n 3, 1) := by decide +kernel
theorem dX8_groupOf_7 : decode cX8_groupOf 7 = .ok (.bipush 12, 2) := by decide +kernel
theorem dX8_groupOf_9 : decode cX8_groupOf 9 = .ok (.if_icmp .ge 66, 3) := by decide +kernel
theorem dX8_groupOf_12 : decode cX8_groupOf 12 = .ok (.iload_n 2, 1) := by decide +kernel
theorem dX8_groupOf_13 : decode cX8_groupOf 13 = .ok (.istore 4, 2) := by decide +kernel
theorem dX8_groupOf_15 : decode cX8_groupOf 15 = .ok (.iconst 0, 1) := by decide +kernel
theorem dX8_groupOf_16 : decode cX8_groupOf 16 = .ok (.istore 5, 2) := by decide +kernel
theorem dX8_groupOf_18 : decode cX8_groupOf 18 = .ok (.iload 5, 2) := by decide +kernel
theorem dX8_groupOf_20 : decode cX8_groupOf 20 = .ok (.aload_n 0, 1) := by decide +kernel
theorem dX8_groupOf_21 : decode cX8_groupOf 21 = .ok (.getfield 41, 3) := by decide +kernel
theorem dX8_groupOf_24 : decode cX8_groupOf 24 = .ok (.getfield 53, 3) := by decide +kernel
theorem dX8_groupOf_27 : decode cX8_groupOf 27 = .ok (.if_icmp .ge 30, 3) := by decide +kernel
theorem dX8_groupOf_30 : decode cX8_groupOf 30 = .ok (.iload_n 2, 1) := by decide +kernel
theorem dX8_groupOf_31 : decode cX8_groupOf 31 = .ok (.iload 5, 2) := by decide +kernel
theorem dX8_groupOf_33 : decode cX8_groupOf 33 = .ok (.ishr, 1) := by decide +kernel
theorem dX8_groupOf_34 : decode cX8_groupOf 34 = .ok (.iconst 1, 1) := by decide +kernel
theorem dX8_groupOf_35 : decode cX8_groupOf 35 = .ok (.iand, 1) := by decide +kernel
theorem dX8_groupOf_36 : decode cX8_groupOf 36 = .ok (.ifCond .eq 15, 3) := by decide +kernel
theorem dX8_groupOf_39 : decode cX8_groupOf 39 = .ok (.iload 4, 2) := by decide +kernel
theorem dX8_groupOf_41 : decode cX8_groupOf 41 = .ok (.aload_n 0, 1) := by decide +kernel
theorem dX8_groupOf_42 : decode cX8_groupOf 42 = .ok (.getfield 64, 3) := by decide +kernel
theorem dX8_groupOf_45 : decode cX8_groupOf 45 = .ok (.iload 5, 2) := by decide +kernel
theorem dX8_groupOf_47 : decode cX8_groupOf 47 = .ok (.iaload, 1) := by decide +kernel
theorem dX8_groupOf_48 : decode cX8_groupOf 48 = .ok (.ior, 1) := by decide +kernel
theorem dX8_groupOf_49 : decode cX8_groupOf 49 = .ok (.istore 4, 2) := by decide +kernel
theorem dX8_groupOf_51 : decode cX8_groupOf 51 = .ok (.iinc 5 1, 3) := by decide +kernel
theorem dX8_groupOf_54 : decode cX8_groupOf 54 = .ok (.goto (-36), 3) := by decide +kernel
theorem dX8_groupOf_57 : decode cX8_groupOf 57 = .ok (.iload 4, 2) := by decide +kernel
theorem dX8_groupOf_59 : decode cX8_groupOf 59 = .ok (.iload_n 2, 1) := by decide +kernel
theorem dX8_groupOf_60 : decode cX8_groupOf 60 = .ok (.if_icmp .ne 6, 3) := by decide +kernel
theorem dX8_groupOf_63 : decode cX8_groupOf 63 = .ok (.goto 12, 3) := by decide +kernel
theorem dX8_groupOf_66 : decode cX8_groupOf 66 = .ok (.iload 4, 2) := by decide +kernel
theorem dX8_groupOf_68 : decode cX8_groupOf 68 = .ok (.istore_n 2, 1) := by decide +kernel
theorem dX8_groupOf_69 : decode cX8_groupOf 69 = .ok (.iinc 3 1, 3) := by decide +kernel
theorem dX8_groupOf_72 : decode cX8_groupOf 72 = .ok (.goto (-66), 3) := by decide +kernel
theorem dX8_groupOf_75 : decode cX8_groupOf 75 = .ok (.iload_n 2, 1) := by decide +kernel
theorem dX8_groupOf_76 : decode cX8_groupOf 76 = .ok (.ireturn, 1) := by decide +kernel
theorem dX9_init_0 : decode cX9_init 0 = .ok (.aload_n 0, 1) := by decide +kernel
theorem dX9_init_1 : decode cX9_init 1 = .ok (.invokespecial 3, 3) := by decide +kernel
theorem dX9_init_4 : decode cX9_init 4 = .ok (.aload_n 0, 1) := by decide +kernel
theorem dX9_init_5 : decode cX9_init 5 = .ok (.aload_n 1, 1) := by decide +kernel
theorem dX9_init_6 : decode cX9_init 6 = .ok (.putfield 9, 3) := by decide +kernel
theorem dX9_init_9 : decode cX9_init 9 = .ok (.aload_n 0, 1) := by decide +kernel
theorem dX9_init_10 : decode cX9_init 10 = .ok (.bipush 12, 2) := by decide +kernel
theorem dX9_init_12 : decode cX9_init 12 = .ok (.newarray .int, 2) := by decide +kernel
theorem dX9_init_14 : decode cX9_init 14 = .ok (.putfield 15, 3) := by decide +kernel
theorem dX9_init_17 : decode cX9_init 17 = .ok (.return_, 1) := by decide +kernel
theorem dX9_leave_0 : decode cX9_leave 0 = .ok (.aload_n 0, 1) := by decide +kernel
theorem dX9_leave_1 : decode cX9_leave 1 = .ok (.iconst 0, 1) := by decide +kernel
theorem dX9_leave_2 : decode cX9_leave 2 = .ok (.putfield 19, 3) := by decide +kernel
theorem dX9_leave_5 : decode cX9_leave 5 = .ok (.aload_n 0, 1) := by decide +kernel
theorem dX9_leave_6 : decode cX9_leave 6 = .ok (.aload_n 0, 1) := by decide +kernel
theorem dX9_leave_7 : decode cX9_leave 7 = .ok (.getfield 9, 3) := by decide +kernel
theorem dX9_leave_10 : decode cX9_leave 10 = .ok (.getfield 23, 3) := by decide +kernel
theorem dX9_leave_13 : decode cX9_leave 13 = .ok (.getfield 29, 3) := by decide +kernel
theorem dX9_leave_16 : decode cX9_leave 16 = .ok (.putfield 34, 3) := by decide +kernel
theorem dX9_leave_19 : decode cX9_leave 19 = .ok (.aload_n 0, 1) := by decide +kernel
theorem dX9_leave_20 : decode cX9_leave 20 = .ok (.getfield 15, 3) := by decide +kernel
theorem dX9_leave_23 : decode cX9_leave 23 = .ok (.bipush 99, 2) := by decide +kernel
theorem dX9_leave_25 : decode cX9_leave 25 = .ok (.invokestatic 35, 3) := by decide +kernel
theorem dX9_leave_28 : decode cX9_leave 28 = .ok (.return_, 1) := by decide +kernel
theorem dX9_number_0 : decode cX9_number 0 = .ok (.aload_n 0, 1) := by decide +kernel
theorem dX9_number_1 : decode cX9_number 1 = .ok (.getfield 19, 3) := by decide +kernel
theorem dX9_number_4 : decode cX9_number 4 = .ok (.invokestatic 41, 3) := by decide +kernel
theorem dX9_number_7 : decode cX9_number 7 = .ok (.ireturn, 1) := by decide +kernel
theorem dX9_isOpen_0 : decode cX9_isOpen 0 = .ok (.aload_n 0, 1) := by decide +kernel
theorem dX9_isOpen_1 : decode cX9_isOpen 1 = .ok (.getfield 15, 3) := by decide +kernel
theorem dX9_isOpen_4 : decode cX9_isOpen 4 = .ok (.iload_n 1, 1) := by decide +kernel
theorem dX9_isOpen_5 : decode cX9_isOpen 5 = .ok (.iaload, 1) := by decide +kernel
theorem dX9_isOpen_6 : decode cX9_isOpen 6 = .ok (.aload_n 0, 1) := by decide +kernel
theorem dX9_isOpen_7 : decode cX9_isOpen 7 = .ok (.getfield 34, 3) := by decide +kernel
theorem dX9_isOpen_10 : decode cX9_isOpen 10 = .ok (.if_icmp .lt 7, 3) := by decide +kernel
theorem dX9_isOpen_13 : decode cX9_isOpen 13 = .ok (.iconst 1, 1) := by decide +kernel
theorem dX9_isOpen_14 : decode cX9_isOpen 14 = .ok (.goto 4, 3) := by decide +kernel
theorem dX9_isOpen_17 : decode cX9_isOpen 17 = .ok (.iconst 0, 1) := by decide +kernel
theorem dX9_isOpen_18 : decode cX9_isOpen 18 = .ok (.ireturn, 1) := by decide +kernel
theorem dX9_sit_0 : decode cX9_sit 0 = .ok (.aload_n 0, 1) := by decide +kernel
theorem dX9_sit_1 : decode cX9_sit 1 = .ok (.dup, 1) := by decide +kernel
theorem dX9_sit_2 : decode cX9_sit 2 = .ok (.getfield 19, 3) := by decide +kernel
theorem dX9_sit_5 : decode cX9_sit 5 = .ok (.iconst 1, 1) := by decide +kernel
theorem dX9_sit_6 : decode cX9_sit 6 = .ok (.iload_n 1, 1) := by decide +kernel
theorem dX9_sit_7 : decode cX9_sit 7 = .ok (.ishl, 1) := by decide +kernel
theorem dX9_sit_8 : decode cX9_sit 8 = .ok (.ior, 1) := by decide +kernel
theorem dX9_sit_9 : decode cX9_sit 9 = .ok (.putfield 19, 3) := by decide +kernel
theorem dX9_sit_12 : decode cX9_sit 12 = .ok (.iconst 0, 1) := by decide +kernel
theorem dX9_sit_13 : decode cX9_sit 13 = .ok (.istore_n 2, 1) := by decide +kernel
theorem dX9_sit_14 : decode cX9_sit 14 = .ok (.iload_n 2, 1) := by decide +kernel
theorem dX9_sit_15 : decode cX9_sit 15 = .ok (.aload_n 0, 1) := by decide +kernel
theorem dX9_sit_16 : decode cX9_sit 16 = .ok (.getfield 9, 3) := by decide +kernel
theorem dX9_sit_19 : decode cX9_sit 19 = .ok (.getfield 23, 3) := by decide +kernel
theorem dX9_sit_22 : decode cX9_sit 22 = .ok (.getfield 47, 3) := by decide +kernel
theorem dX9_sit_25 : decode cX9_sit 25 = .ok (.if_icmp .ge 33, 3) := by decide +kernel
theorem dX9_sit_28 : decode cX9_sit 28 = .ok (.aload_n 0, 1) := by decide +kernel
theorem dX9_sit_29 : decode cX9_sit 29 = .ok (.getfield 15, 3) := by decide +kernel
theorem dX9_sit_32 : decode cX9_sit 32 = .ok (.iload_n 2, 1) := by decide +kernel
theorem dX9_sit_33 : decode cX9_sit 33 = .ok (.aload_n 0, 1) := by decide +kernel
theorem dX9_sit_34 : decode cX9_sit 34 = .ok (.getfield 15, 3) := by decide +kernel
theorem dX9_sit_37 : decode cX9_sit 37 = .ok (.iload_n 2, 1) := by decide +kernel
theorem dX9_sit_38 : decode cX9_sit 38 = .ok (.iaload, 1) := by decide +kernel
theorem dX9_sit_39 : decode cX9_sit 39 = .ok (.aload_n 0, 1) := by decide +kernel
theorem dX9_sit_40 : decode cX9_sit 40 = .ok (.getfield 9, 3) := by decide +kernel
theorem dX9_sit_43 : decode cX9_sit 43 = .ok (.iload_n 1, 1) := by decide +kernel
theorem dX9_sit_44 : decode cX9_sit 44 = .ok (.iload_n 2, 1) := by decide +kernel
theorem dX9_sit_45 : decode cX9_sit 45 = .ok (.invokevirtual 50, 3) := by decide +kernel
theorem dX9_sit_48 : decode cX9_sit 48 = .ok (.invokestatic 54, 3) := by decide +kernel
theorem dX9_sit_51 : decode cX9_sit 51 = .ok (.iastore, 1) := by decide +kernel
theorem dX9_sit_52 : decode cX9_sit 52 = .ok (.iinc 2 1, 3) := by decide +kernel
theorem dX9_sit_55 : decode cX9_sit 55 = .ok (.goto (-41), 3) := by decide +kernel
theorem dX9_sit_58 : decode cX9_sit 58 = .ok (.return_, 1) := by decide +kernel
theorem dX9_seatSet_0 : decode cX9_seatSet 0 = .ok (.aload_n 0, 1) := by decide +kernel
theorem dX9_seatSet_1 : decode cX9_seatSet 1 = .ok (.invokevirtual 59, 3) := by decide +kernel
theorem dX9_seatSet_4 : decode cX9_seatSet 4 = .ok (.iconst 0, 1) := by decide +kernel
theorem dX9_seatSet_5 : decode cX9_seatSet 5 = .ok (.istore_n 2, 1) := by decide +kernel
theorem dX9_seatSet_6 : decode cX9_seatSet 6 = .ok (.iload_n 2, 1) := by decide +kernel
theorem dX9_seatSet_7 : decode cX9_seatSet 7 = .ok (.aload_n 0, 1) := by decide +kernel
theorem dX9_seatSet_8 : decode cX9_seatSet 8 = .ok (.getfield 9, 3) := by decide +kernel
theorem dX9_seatSet_11 : decode cX9_seatSet 11 = .ok (.getfield 23, 3) := by decide +kernel
theorem dX9_seatSet_14 : decode cX9_seatSet 14 = .ok (.getfield 47, 3) := by decide +kernel
theorem dX9_seatSet_17 : decode cX9_seatSet 17 = .ok (.if_icmp .ge 32, 3) := by decide +kernel
theorem dX9_seatSet_20 : decode cX9_seatSet 20 = .ok (.iload_n 1, 1) := by decide +kernel
theorem dX9_seatSet_21 : decode cX9_seatSet 21 = .ok (.iload_n 2, 1) := by decide +kernel
theorem dX9_seatSet_22 : decode cX9_seatSet 22 = .ok (.ishr, 1) := by decide +kernel
theorem dX9_seatSet_23 : decode cX9_seatSet 23 = .ok (.iconst 1, 1) := by decide +kernel
theorem dX9_seatSet_24 : decode cX9_seatSet 24 = .ok (.iand, 1) := by decide +kernel
theorem dX9_seatSet_25 : decode cX9_seatSet 25 = .ok (.ifCond .eq 18, 3) := by decide +kernel
theorem dX9_seatSet_28 : decode cX9_seatSet 28 = .ok (.aload_n 0, 1) := by decide +kernel
theorem dX9_seatSet_29 : decode cX9_seatSet 29 = .ok (.iload_n 2, 1) := by decide +kernel
theorem dX9_seatSet_30 : decode cX9_seatSet 30 = .ok (.invokevirtual 62, 3) := by decide +kernel
theorem dX9_seatSet_33 : decode cX9_seatSet 33 = .ok (.ifCond .ne 5, 3) := by decide +kernel
theorem dX9_seatSet_36 : decode cX9_seatSet 36 = .ok (.iconst 0, 1) := by decide +kernel
theorem dX9_seatSet_37 : decode cX9_seatSet 37 = .ok (.ireturn, 1) := by decide +kernel
theorem dX9_seatSet_38 : decode cX9_seatSet 38 = .ok (.aload_n 0, 1) := by decide +kernel
theorem dX9_seatSet_39 : decode cX9_seatSet 39 = .ok (.iload_n 2, 1) := by decide +kernel
theorem dX9_seatSet_40 : decode cX9_seatSet 40 = .ok (.invokevirtual 66, 3) := by decide +kernel
theorem dX9_seatSet_43 : decode cX9_seatSet 43 = .ok (.iinc 2 1, 3) := by decide +kernel
theorem dX9_seatSet_46 : decode cX9_seatSet 46 = .ok (.goto (-40), 3) := by decide +kernel
theorem dX9_seatSet_49 : decode cX9_seatSet 49 = .ok (.iconst 1, 1) := by decide +kernel
theorem dX9_seatSet_50 : decode cX9_seatSet 50 = .ok (.ireturn, 1) := by decide +kernel
theorem dX9_openSeats_0 : decode cX9_openSeats 0 = .ok (.iconst 0, 1) := by decide +kernel
theorem dX9_openSeats_1 : decode cX9_openSeats 1 = .ok (.istore_n 1, 1) := by decide +kernel
theorem dX9_openSeats_2 : decode cX9_openSeats 2 = .ok (.iconst 0, 1) := by decide +kernel
theorem dX9_openSeats_3 : decode cX9_openSeats 3 = .ok (.istore_n 2, 1) := by decide +kernel
theorem dX9_openSeats_4 : decode cX9_openSeats 4 = .ok (.iload_n 2, 1) := by decide +kernel
theorem dX9_openSeats_5 : decode cX9_openSeats 5 = .ok (.aload_n 0, 1) := by decide +kernel
theorem dX9_openSeats_6 : decode cX9_openSeats 6 = .ok (.getfield 9, 3) := by decide +kernel
theorem dX9_openSeats_9 : decode cX9_openSeats 9 = .ok (.getfield 23, 3) := by decide +kernel
theorem dX9_openSeats_12 : decode cX9_openSeats 12 = .ok (.getfield 47, 3) := by decide +kernel
theorem dX9_openSeats_15 : decode cX9_openSeats 15 = .ok (.if_icmp .ge 23, 3) := by decide +kernel
theorem dX9_openSeats_18 : decode cX9_openSeats 18 = .ok (.aload_n 0, 1) := by decide +kernel
