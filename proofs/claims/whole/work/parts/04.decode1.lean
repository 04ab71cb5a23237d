theorem dX9_openSeats_19 : decode cX9_openSeats 19 = .ok (.iload_n 2, 1) := by decide +kernel
theorem dX9_openSeats_20 : decode cX9_openSeats 20 = .ok (.invokevirtual 62, 3) := by decide +kernel
theorem dX9_openSeats_23 : decode cX9_openSeats 23 = .ok (.ifCond .eq 9, 3) := by decide +kernel
theorem dX9_openSeats_26 : decode cX9_openSeats 26 = .ok (.iload_n 1, 1) := by decide +kernel
theorem dX9_openSeats_27 : decode cX9_openSeats 27 = .ok (.iconst 1, 1) := by decide +kernel
theorem dX9_openSeats_28 : decode cX9_openSeats 28 = .ok (.iload_n 2, 1) := by decide +kernel
theorem dX9_openSeats_29 : decode cX9_openSeats 29 = .ok (.ishl, 1) := by decide +kernel
theorem dX9_openSeats_30 : decode cX9_openSeats 30 = .ok (.ior, 1) := by decide +kernel
theorem dX9_openSeats_31 : decode cX9_openSeats 31 = .ok (.istore_n 1, 1) := by decide +kernel
theorem dX9_openSeats_32 : decode cX9_openSeats 32 = .ok (.iinc 2 1, 3) := by decide +kernel
theorem dX9_openSeats_35 : decode cX9_openSeats 35 = .ok (.goto (-31), 3) := by decide +kernel
theorem dX9_openSeats_38 : decode cX9_openSeats 38 = .ok (.iload_n 1, 1) := by decide +kernel
theorem dX9_openSeats_39 : decode cX9_openSeats 39 = .ok (.ireturn, 1) := by decide +kernel
theorem dX9_choice_0 : decode cX9_choice 0 = .ok (.bipush (-6), 2) := by decide +kernel
theorem dX9_choice_2 : decode cX9_choice 2 = .ok (.istore_n 2, 1) := by decide +kernel
theorem dX9_choice_3 : decode cX9_choice 3 = .ok (.iconst 0, 1) := by decide +kernel
theorem dX9_choice_4 : decode cX9_choice 4 = .ok (.istore_n 3, 1) := by decide +kernel
theorem dX9_choice_5 : decode cX9_choice 5 = .ok (.iconst 0, 1) := by decide +kernel
theorem dX9_choice_6 : decode cX9_choice 6 = .ok (.istore 4, 2) := by decide +kernel
theorem dX9_choice_8 : decode cX9_choice 8 = .ok (.iload 4, 2) := by decide +kernel
theorem dX9_choice_10 : decode cX9_choice 10 = .ok (.aload_n 0, 1) := by decide +kernel
theorem dX9_choice_11 : decode cX9_choice 11 = .ok (.getfield 9, 3) := by decide +kernel
theorem dX9_choice_14 : decode cX9_choice 14 = .ok (.getfield 23, 3) := by decide +kernel
theorem dX9_choice_17 : decode cX9_choice 17 = .ok (.getfield 47, 3) := by decide +kernel
theorem dX9_choice_20 : decode cX9_choice 20 = .ok (.if_icmp .ge 45, 3) := by decide +kernel
theorem dX9_choice_23 : decode cX9_choice 23 = .ok (.aload_n 0, 1) := by decide +kernel
theorem dX9_choice_24 : decode cX9_choice 24 = .ok (.iload 4, 2) := by decide +kernel
theorem dX9_choice_26 : decode cX9_choice 26 = .ok (.invokevirtual 62, 3) := by decide +kernel
theorem dX9_choice_29 : decode cX9_choice 29 = .ok (.ifCond .eq 30, 3) := by decide +kernel
theorem dX9_choice_32 : decode cX9_choice 32 = .ok (.aload_n 0, 1) := by decide +kernel
theorem dX9_choice_33 : decode cX9_choice 33 = .ok (.iload 4, 2) := by decide +kernel
theorem dX9_choice_35 : decode cX9_choice 35 = .ok (.iload_n 1, 1) := by decide +kernel
theorem dX9_choice_36 : decode cX9_choice 36 = .ok (.invokevirtual 70, 3) := by decide +kernel
theorem dX9_choice_39 : decode cX9_choice 39 = .ok (.istore 5, 2) := by decide +kernel
theorem dX9_choice_41 : decode cX9_choice 41 = .ok (.iload_n 2, 1) := by decide +kernel
theorem dX9_choice_42 : decode cX9_choice 42 = .ok (.bipush (-6), 2) := by decide +kernel
theorem dX9_choice_44 : decode cX9_choice 44 = .ok (.if_icmp .eq 9, 3) := by decide +kernel
theorem dX9_choice_47 : decode cX9_choice 47 = .ok (.iload 5, 2) := by decide +kernel
theorem dX9_choice_49 : decode cX9_choice 49 = .ok (.iload_n 3, 1) := by decide +kernel
theorem dX9_choice_50 : decode cX9_choice 50 = .ok (.if_icmp .le 9, 3) := by decide +kernel
theorem dX9_choice_53 : decode cX9_choice 53 = .ok (.iload 4, 2) := by decide +kernel
theorem dX9_choice_55 : decode cX9_choice 55 = .ok (.istore_n 2, 1) := by decide +kernel
theorem dX9_choice_56 : decode cX9_choice 56 = .ok (.iload 5, 2) := by decide +kernel
theorem dX9_choice_58 : decode cX9_choice 58 = .ok (.istore_n 3, 1) := by decide +kernel
theorem dX9_choice_59 : decode cX9_choice 59 = .ok (.iinc 4 1, 3) := by decide +kernel
theorem dX9_choice_62 : decode cX9_choice 62 = .ok (.goto (-54), 3) := by decide +kernel
theorem dX9_choice_65 : decode cX9_choice 65 = .ok (.iload_n 2, 1) := by decide +kernel
theorem dX9_choice_66 : decode cX9_choice 66 = .ok (.ireturn, 1) := by decide +kernel
theorem dX9_wishFor_0 : decode cX9_wishFor 0 = .ok (.iload_n 2, 1) := by decide +kernel
theorem dX9_wishFor_1 : decode cX9_wishFor 1 = .ok (.tableswitch 115 0 5 #[39, 62, 115, 85, 87, 95], 39) := by decide +kernel
theorem dX9_wishFor_40 : decode cX9_wishFor 40 = .ok (.bipush 10, 2) := by decide +kernel
theorem dX9_wishFor_42 : decode cX9_wishFor 42 = .ok (.aload_n 0, 1) := by decide +kernel
theorem dX9_wishFor_43 : decode cX9_wishFor 43 = .ok (.getfield 15, 3) := by decide +kernel
theorem dX9_wishFor_46 : decode cX9_wishFor 46 = .ok (.iload_n 1, 1) := by decide +kernel
theorem dX9_wishFor_47 : decode cX9_wishFor 47 = .ok (.iaload, 1) := by decide +kernel
theorem dX9_wishFor_48 : decode cX9_wishFor 48 = .ok (.imul, 1) := by decide +kernel
theorem dX9_wishFor_49 : decode cX9_wishFor 49 = .ok (.aload_n 0, 1) := by decide +kernel
theorem dX9_wishFor_50 : decode cX9_wishFor 50 = .ok (.getfield 9, 3) := by decide +kernel
theorem dX9_wishFor_53 : decode cX9_wishFor 53 = .ok (.getfield 23, 3) := by decide +kernel
theorem dX9_wishFor_56 : decode cX9_wishFor 56 = .ok (.getfield 73, 3) := by decide +kernel
theorem dX9_wishFor_59 : decode cX9_wishFor 59 = .ok (.iload_n 1, 1) := by decide +kernel
theorem dX9_wishFor_60 : decode cX9_wishFor 60 = .ok (.iaload, 1) := by decide +kernel
theorem dX9_wishFor_61 : decode cX9_wishFor 61 = .ok (.iadd, 1) := by decide +kernel
theorem dX9_wishFor_62 : decode cX9_wishFor 62 = .ok (.ireturn, 1) := by decide +kernel
theorem dX9_wishFor_63 : decode cX9_wishFor 63 = .ok (.bipush 100, 2) := by decide +kernel
theorem dX9_wishFor_65 : decode cX9_wishFor 65 = .ok (.aload_n 0, 1) := by decide +kernel
theorem dX9_wishFor_66 : decode cX9_wishFor 66 = .ok (.getfield 9, 3) := by decide +kernel
theorem dX9_wishFor_69 : decode cX9_wishFor 69 = .ok (.getfield 23, 3) := by decide +kernel
theorem dX9_wishFor_72 : decode cX9_wishFor 72 = .ok (.getfield 73, 3) := by decide +kernel
theorem dX9_wishFor_75 : decode cX9_wishFor 75 = .ok (.iload_n 1, 1) := by decide +kernel
theorem dX9_wishFor_76 : decode cX9_wishFor 76 = .ok (.iaload, 1) := by decide +kernel
theorem dX9_wishFor_77 : decode cX9_wishFor 77 = .ok (.imul, 1) := by decide +kernel
theorem dX9_wishFor_78 : decode cX9_wishFor 78 = .ok (.aload_n 0, 1) := by decide +kernel
theorem dX9_wishFor_79 : decode cX9_wishFor 79 = .ok (.getfield 15, 3) := by decide +kernel
theorem dX9_wishFor_82 : decode cX9_wishFor 82 = .ok (.iload_n 1, 1) := by decide +kernel
theorem dX9_wishFor_83 : decode cX9_wishFor 83 = .ok (.iaload, 1) := by decide +kernel
theorem dX9_wishFor_84 : decode cX9_wishFor 84 = .ok (.iadd, 1) := by decide +kernel
theorem dX9_wishFor_85 : decode cX9_wishFor 85 = .ok (.ireturn, 1) := by decide +kernel
theorem dX9_wishFor_86 : decode cX9_wishFor 86 = .ok (.iload_n 1, 1) := by decide +kernel
theorem dX9_wishFor_87 : decode cX9_wishFor 87 = .ok (.ireturn, 1) := by decide +kernel
theorem dX9_wishFor_88 : decode cX9_wishFor 88 = .ok (.aload_n 0, 1) := by decide +kernel
theorem dX9_wishFor_89 : decode cX9_wishFor 89 = .ok (.getfield 15, 3) := by decide +kernel
theorem dX9_wishFor_92 : decode cX9_wishFor 92 = .ok (.iload_n 1, 1) := by decide +kernel
theorem dX9_wishFor_93 : decode cX9_wishFor 93 = .ok (.iaload, 1) := by decide +kernel
theorem dX9_wishFor_94 : decode cX9_wishFor 94 = .ok (.ineg, 1) := by decide +kernel
theorem dX9_wishFor_95 : decode cX9_wishFor 95 = .ok (.ireturn, 1) := by decide +kernel
theorem dX9_wishFor_96 : decode cX9_wishFor 96 = .ok (.aload_n 0, 1) := by decide +kernel
theorem dX9_wishFor_97 : decode cX9_wishFor 97 = .ok (.getfield 15, 3) := by decide +kernel
theorem dX9_wishFor_100 : decode cX9_wishFor 100 = .ok (.iload_n 1, 1) := by decide +kernel
theorem dX9_wishFor_101 : decode cX9_wishFor 101 = .ok (.iaload, 1) := by decide +kernel
theorem dX9_wishFor_102 : decode cX9_wishFor 102 = .ok (.bipush 100, 2) := by decide +kernel
theorem dX9_wishFor_104 : decode cX9_wishFor 104 = .ok (.aload_n 0, 1) := by decide +kernel
theorem dX9_wishFor_105 : decode cX9_wishFor 105 = .ok (.getfield 9, 3) := by decide +kernel
theorem dX9_wishFor_108 : decode cX9_wishFor 108 = .ok (.getfield 76, 3) := by decide +kernel
theorem dX9_wishFor_111 : decode cX9_wishFor 111 = .ok (.iload_n 1, 1) := by decide +kernel
theorem dX9_wishFor_112 : decode cX9_wishFor 112 = .ok (.iaload, 1) := by decide +kernel
theorem dX9_wishFor_113 : decode cX9_wishFor 113 = .ok (.imul, 1) := by decide +kernel
theorem dX9_wishFor_114 : decode cX9_wishFor 114 = .ok (.isub, 1) := by decide +kernel
theorem dX9_wishFor_115 : decode cX9_wishFor 115 = .ok (.ireturn, 1) := by decide +kernel
theorem dX9_wishFor_116 : decode cX9_wishFor 116 = .ok (.iconst 0, 1) := by decide +kernel
theorem dX9_wishFor_117 : decode cX9_wishFor 117 = .ok (.ireturn, 1) := by decide +kernel
theorem dX9_fillUp_0 : decode cX9_fillUp 0 = .ok (.iconst 0, 1) := by decide +kernel
theorem dX9_fillUp_1 : decode cX9_fillUp 1 = .ok (.istore_n 2, 1) := by decide +kernel
theorem dX9_fillUp_2 : decode cX9_fillUp 2 = .ok (.iload_n 2, 1) := by decide +kernel
theorem dX9_fillUp_3 : decode cX9_fillUp 3 = .ok (.bipush 12, 2) := by decide +kernel
theorem dX9_fillUp_5 : decode cX9_fillUp 5 = .ok (.if_icmp .ge 27, 3) := by decide +kernel
theorem dX9_fillUp_8 : decode cX9_fillUp 8 = .ok (.aload_n 0, 1) := by decide +kernel
theorem dX9_fillUp_9 : decode cX9_fillUp 9 = .ok (.iload_n 1, 1) := by decide +kernel
theorem dX9_fillUp_10 : decode cX9_fillUp 10 = .ok (.invokevirtual 79, 3) := by decide +kernel
theorem dX9_fillUp_13 : decode cX9_fillUp 13 = .ok (.istore_n 3, 1) := by decide +kernel
theorem dX9_fillUp_14 : decode cX9_fillUp 14 = .ok (.iload_n 3, 1) := by decide +kernel
theorem dX9_fillUp_15 : decode cX9_fillUp 15 = .ok (.bipush (-6), 2) := by decide +kernel
theorem dX9_fillUp_17 : decode cX9_fillUp 17 = .ok (.if_icmp .ne 4, 3) := by decide +kernel
theorem dX9_fillUp_20 : decode cX9_fillUp 20 = .ok (.return_, 1) := by decide +kernel
theorem dX9_fillUp_21 : decode cX9_fillUp 21 = .ok (.aload_n 0, 1) := by decide +kernel
theorem dX9_fillUp_22 : decode cX9_fillUp 22 = .ok (.iload_n 3, 1) := by decide +kernel
theorem dX9_fillUp_23 : decode cX9_fillUp 23 = .ok (.invokevirtual 66, 3) := by decide +kernel
theorem dX9_fillUp_26 : decode cX9_fillUp 26 = .ok (.iinc 2 1, 3) := by decide +kernel
theorem dX9_fillUp_29 : decode cX9_fillUp 29 = .ok (.goto (-27), 3) := by decide +kernel
theorem dX9_fillUp_32 : decode cX9_fillUp 32 = .ok (.return_, 1) := by decide +kernel
theorem dX10_init_0 : decode cX10_init 0 = .ok (.aload_n 0, 1) := by decide +kernel
theorem dX10_init_1 : decode cX10_init 1 = .ok (.invokespecial 3, 3) := by decide +kernel
theorem dX10_init_4 : decode cX10_init 4 = .ok (.aload_n 0, 1) := by decide +kernel
theorem dX10_init_5 : decode cX10_init 5 = .ok (.new 9, 3) := by decide +kernel
theorem dX10_init_8 : decode cX10_init 8 = .ok (.dup, 1) := by decide +kernel
theorem dX10_init_9 : decode cX10_init 9 = .ok (.invokespecial 11, 3) := by decide +kernel
theorem dX10_init_12 : decode cX10_init 12 = .ok (.putfield 12, 3) := by decide +kernel
theorem dX10_init_15 : decode cX10_init 15 = .ok (.aload_n 0, 1) := by decide +kernel
theorem dX10_init_16 : decode cX10_init 16 = .ok (.new 16, 3) := by decide +kernel
theorem dX10_init_19 : decode cX10_init 19 = .ok (.dup, 1) := by decide +kernel
theorem dX10_init_20 : decode cX10_init 20 = .ok (.invokespecial 18, 3) := by decide +kernel
theorem dX10_init_23 : decode cX10_init 23 = .ok (.putfield 19, 3) := by decide +kernel
theorem dX10_init_26 : decode cX10_init 26 = .ok (.aload_n 0, 1) := by decide +kernel
theorem dX10_init_27 : decode cX10_init 27 = .ok (.iconst 2, 1) := by decide +kernel
theorem dX10_init_28 : decode cX10_init 28 = .ok (.anewarray 16, 3) := by decide +kernel
theorem dX10_init_31 : decode cX10_init 31 = .ok (.putfield 23, 3) := by decide +kernel
theorem dX10_init_34 : decode cX10_init 34 = .ok (.aload_n 0, 1) := by decide +kernel
theorem dX10_init_35 : decode cX10_init 35 = .ok (.new 27, 3) := by decide +kernel
theorem dX10_init_38 : decode cX10_init 38 = .ok (.dup, 1) := by decide +kernel
theorem dX10_init_39 : decode cX10_init 39 = .ok (.aload_n 0, 1) := by decide +kernel
theorem dX10_init_40 : decode cX10_init 40 = .ok (.getfield 19, 3) := by decide +kernel
theorem dX10_init_43 : decode cX10_init 43 = .ok (.invokespecial 29, 3) := by decide +kernel
theorem dX10_init_46 : decode cX10_init 46 = .ok (.putfield 32, 3) := by decide +kernel
theorem dX10_init_49 : decode cX10_init 49 = .ok (.aload_n 0, 1) := by decide +kernel
theorem dX10_init_50 : decode cX10_init 50 = .ok (.new 27, 3) := by decide +kernel
theorem dX10_init_53 : decode cX10_init 53 = .ok (.dup, 1) := by decide +kernel
theorem dX10_init_54 : decode cX10_init 54 = .ok (.aload_n 0, 1) := by decide +kernel
theorem dX10_init_55 : decode cX10_init 55 = .ok (.getfield 19, 3) := by decide +kernel
theorem dX10_init_58 : decode cX10_init 58 = .ok (.invokespecial 29, 3) := by decide +kernel
theorem dX10_init_61 : decode cX10_init 61 = .ok (.putfield 36, 3) := by decide +kernel
theorem dX10_init_64 : decode cX10_init 64 = .ok (.aload_n 0, 1) := by decide +kernel
theorem dX10_init_65 : decode cX10_init 65 = .ok (.new 39, 3) := by decide +kernel
theorem dX10_init_68 : decode cX10_init 68 = .ok (.dup, 1) := by decide +kernel
theorem dX10_init_69 : decode cX10_init 69 = .ok (.aload_n 0, 1) := by decide +kernel
theorem dX10_init_70 : decode cX10_init 70 = .ok (.getfield 32, 3) := by decide +kernel
theorem dX10_init_73 : decode cX10_init 73 = .ok (.invokespecial 41, 3) := by decide +kernel
theorem dX10_init_76 : decode cX10_init 76 = .ok (.putfield 44, 3) := by decide +kernel
theorem dX10_init_79 : decode cX10_init 79 = .ok (.aload_n 0, 1) := by decide +kernel
theorem dX10_init_80 : decode cX10_init 80 = .ok (.new 39, 3) := by decide +kernel
theorem dX10_init_83 : decode cX10_init 83 = .ok (.dup, 1) := by decide +kernel
theorem dX10_init_84 : decode cX10_init 84 = .ok (.aload_n 0, 1) := by decide +kernel
theorem dX10_init_85 : decode cX10_init 85 = .ok (.getfield 36, 3) := by decide +kernel
theorem dX10_init_88 : decode cX10_init 88 = .ok (.invokespecial 41, 3) := by decide +kernel
theorem dX10_init_91 : decode cX10_init 91 = .ok (.putfield 48, 3) := by decide +kernel
theorem dX10_init_94 : decode cX10_init 94 = .ok (.aload_n 0, 1) := by decide +kernel
theorem dX10_init_95 : decode cX10_init 95 = .ok (.new 51, 3) := by decide +kernel
theorem dX10_init_98 : decode cX10_init 98 = .ok (.dup, 1) := by decide +kernel
theorem dX10_init_99 : decode cX10_init 99 = .ok (.invokespecial 53, 3) := by decide +kernel
theorem dX10_init_102 : decode cX10_init 102 = .ok (.putfield 54, 3) := by decide +kernel
theorem dX10_init_105 : decode cX10_init 105 = .ok (.aload_n 0, 1) := by decide +kernel
theorem dX10_init_106 : decode cX10_init 106 = .ok (.new 58, 3) := by decide +kernel
theorem dX10_init_109 : decode cX10_init 109 = .ok (.dup, 1) := by decide +kernel
theorem dX10_init_110 : decode cX10_init 110 = .ok (.invokespecial 60, 3) := by decide +kernel
theorem dX10_init_113 : decode cX10_init 113 = .ok (.putfield 61, 3) := by decide +kernel
theorem dX10_init_116 : decode cX10_init 116 = .ok (.aload_n 0, 1) := by decide +kernel
theorem dX10_init_117 : decode cX10_init 117 = .ok (.new 65, 3) := by decide +kernel
theorem dX10_init_120 : decode cX10_init 120 = .ok (.dup, 1) := by decide +kernel
theorem dX10_init_121 : decode cX10_init 121 = .ok (.invokespecial 67, 3) := by decide +kernel
theorem dX10_init_124 : decode cX10_init 124 = .ok (.putfield 68, 3) := by decide +kernel
theorem dX10_init_127 : decode cX10_init 127 = .ok (.aload_n 0, 1) := by decide +kernel
theorem dX10_init_128 : decode cX10_init 128 = .ok (.new 72, 3) := by decide +kernel
theorem dX10_init_131 : decode cX10_init 131 = .ok (.dup, 1) := by decide +kernel
theorem dX10_init_132 : decode cX10_init 132 = .ok (.invokespecial 74, 3) := by decide +kernel
theorem dX10_init_135 : decode cX10_init 135 = .ok (.putfield 75, 3) := by decide +kernel
theorem dX10_init_138 : decode cX10_init 138 = .ok (.aload_n 0, 1) := by decide +kernel
theorem dX10_init_139 : decode cX10_init 139 = .ok (.new 79, 3) := by decide +kernel
theorem dX10_init_142 : decode cX10_init 142 = .ok (.dup, 1) := by decide +kernel
theorem dX10_init_143 : decode cX10_init 143 = .ok (.aload_n 0, 1) := by decide +kernel
theorem dX10_init_144 : decode cX10_init 144 = .ok (.getfield 44, 3) := by decide +kernel
theorem dX10_init_147 : decode cX10_init 147 = .ok (.invokespecial 81, 3) := by decide +kernel
theorem dX10_init_150 : decode cX10_init 150 = .ok (.putfield 84, 3) := by decide +kernel
theorem dX10_init_153 : decode cX10_init 153 = .ok (.aload_n 0, 1) := by decide +kernel
theorem dX10_init_154 : decode cX10_init 154 = .ok (.new 88, 3) := by decide +kernel
theorem dX10_init_157 : decode cX10_init 157 = .ok (.dup, 1) := by decide +kernel
theorem dX10_init_158 : decode cX10_init 158 = .ok (.invokespecial 90, 3) := by decide +kernel
theorem dX10_init_161 : decode cX10_init 161 = .ok (.putfield 91, 3) := by decide +kernel
theorem dX10_init_164 : decode cX10_init 164 = .ok (.aload_n 0, 1) := by decide +kernel
theorem dX10_init_165 : decode cX10_init 165 = .ok (.getfield 32, 3) := by decide +kernel
theorem dX10_init_168 : decode cX10_init 168 = .ok (.iconst 0, 1) := by decide +kernel
theorem dX10_init_169 : decode cX10_init 169 = .ok (.invokevirtual 95, 3) := by decide +kernel
theorem dX10_init_172 : decode cX10_init 172 = .ok (.return_, 1) := by decide +kernel
theorem dX10_say_0 : decode cX10_say 0 = .ok (.iload_n 1, 1) := by decide +kernel
theorem dX10_say_1 : decode cX10_say 1 = .ok (.bipush 33, 2) := by decide +kernel
theorem dX10_say_3 : decode cX10_say 3 = .ok (.bipush 126, 2) := by decide +kernel
theorem dX10_say_5 : decode cX10_say 5 = .ok (.invokestatic 99, 3) := by decide +kernel
theorem dX10_say_8 : decode cX10_say 8 = .ok (.ifCond .ne 6, 3) := by decide +kernel
theorem dX10_say_11 : decode cX10_say 11 = .ok (.bipush (-2), 2) := by decide +kernel
theorem dX10_say_13 : decode cX10_say 13 = .ok (.ireturn, 1) := by decide +kernel
theorem dX10_say_14 : decode cX10_say 14 = .ok (.aload_n 0, 1) := by decide +kernel
theorem dX10_say_15 : decode cX10_say 15 = .ok (.getfield 12, 3) := by decide +kernel
theorem dX10_say_18 : decode cX10_say 18 = .ok (.iload_n 1, 1) := by decide +kernel
theorem dX10_say_19 : decode cX10_say 19 = .ok (.invokevirtual 103, 3) := by decide +kernel
theorem dX10_say_22 : decode cX10_say 22 = .ok (.ifCond .eq 13, 3) := by decide +kernel
theorem dX10_say_25 : decode cX10_say 25 = .ok (.aload_n 0, 1) := by decide +kernel
theorem dX10_say_26 : decode cX10_say 26 = .ok (.getfield 12, 3) := by decide +kernel
theorem dX10_say_29 : decode cX10_say 29 = .ok (.getfield 107, 3) := by decide +kernel
theorem dX10_say_32 : decode cX10_say 32 = .ok (.goto 5, 3) := by decide +kernel
theorem dX10_say_35 : decode cX10_say 35 = .ok (.bipush (-4), 2) := by decide +kernel
theorem dX10_say_37 : decode cX10_say 37 = .ok (.ireturn, 1) := by decide +kernel
theorem dX10_wipe_0 : decode cX10_wipe 0 = .ok (.aload_n 0, 1) := by decide +kernel
theorem dX10_wipe_1 : decode cX10_wipe 1 = .ok (.getfield 12, 3) := by decide +kernel
theorem dX10_wipe_4 : decode cX10_wipe 4 = .ok (.getfield 107, 3) := by decide +kernel
theorem dX10_wipe_7 : decode cX10_wipe 7 = .ok (.istore_n 1, 1) := by decide +kernel
theorem dX10_wipe_8 : decode cX10_wipe 8 = .ok (.aload_n 0, 1) := by decide +kernel
theorem dX10_wipe_9 : decode cX10_wipe 9 = .ok (.getfield 12, 3) := by decide +kernel
theorem dX10_wipe_12 : decode cX10_wipe 12 = .ok (.iconst 0, 1) := by decide +kernel
theorem dX10_wipe_13 : decode cX10_wipe 13 = .ok (.putfield 107, 3) := by decide +kernel
theorem dX10_wipe_16 : decode cX10_wipe 16 = .ok (.iload_n 1, 1) := by decide +kernel
theorem dX10_wipe_17 : decode cX10_wipe 17 = .ok (.ireturn, 1) := by decide +kernel
theorem dX10_fault_0 : decode cX10_fault 0 = .ok (.aload_n 0, 1) := by decide +kernel
theorem dX10_fault_1 : decode cX10_fault 1 = .ok (.getfield 12, 3) := by decide +kernel
theorem dX10_fault_4 : decode cX10_fault 4 = .ok (.invokevirtual 111, 3) := by decide +kernel
theorem dX10_fault_7 : decode cX10_fault 7 = .ok (.ireturn, 1) := by decide +kernel
theorem dX10_room_0 : decode cX10_room 0 = .ok (.aload_n 0, 1) := by decide +kernel
theorem dX10_room_1 : decode cX10_room 1 = .ok (.getfield 12, 3) := by decide +kernel
theorem dX10_room_4 : decode cX10_room 4 = .ok (.invokevirtual 111, 3) := by decide +kernel
theorem dX10_room_7 : decode cX10_room 7 = .ok (.bipush (-6), 2) := by decide +kernel
theorem dX10_room_9 : decode cX10_room 9 = .ok (.if_icmp .eq 6, 3) := by decide +kernel
theorem dX10_room_12 : decode cX10_room 12 = .ok (.bipush (-5), 2) := by decide +kernel
theorem dX10_room_14 : decode cX10_room 14 = .ok (.ireturn, 1) := by decide +kernel
theorem dX10_room_15 : decode cX10_room 15 = .ok (.aload_n 0, 1) := by decide +kernel
theorem dX10_room_16 : decode cX10_room 16 = .ok (.getfield 19, 3) := by decide +kernel
theorem dX10_room_19 : decode cX10_room 19 = .ok (.aload_n 0, 1) := by decide +kernel
theorem dX10_room_20 : decode cX10_room 20 = .ok (.getfield 12, 3) := by decide +kernel
theorem dX10_room_23 : decode cX10_room 23 = .ok (.aload_n 0, 1) := by decide +kernel
theorem dX10_room_24 : decode cX10_room 24 = .ok (.getfield 19, 3) := by decide +kernel
theorem dX10_room_27 : decode cX10_room 27 = .ok (.getfield 115, 3) := by decide +kernel
theorem dX10_room_30 : decode cX10_room 30 = .ok (.invokevirtual 119, 3) := by decide +kernel
theorem dX10_room_33 : decode cX10_room 33 = .ok (.putfield 123, 3) := by decide +kernel
theorem dX10_room_36 : decode cX10_room 36 = .ok (.aload_n 0, 1) := by decide +kernel
theorem dX10_room_37 : decode cX10_room 37 = .ok (.getfield 12, 3) := by decide +kernel
theorem dX10_room_40 : decode cX10_room 40 = .ok (.iconst 0, 1) := by decide +kernel
theorem dX10_room_41 : decode cX10_room 41 = .ok (.putfield 107, 3) := by decide +kernel
theorem dX10_room_44 : decode cX10_room 44 = .ok (.aload_n 0, 1) := by decide +kernel
theorem dX10_room_45 : decode cX10_room 45 = .ok (.getfield 19, 3) := by decide +kernel
theorem dX10_room_48 : decode cX10_room 48 = .ok (.getfield 126, 3) := by decide +kernel
theorem dX10_room_51 : decode cX10_room 51 = .ok (.iconst 0, 1) := by decide +kernel
theorem dX10_room_52 : decode cX10_room 52 = .ok (.invokestatic 129, 3) := by decide +kernel
theorem dX10_room_55 : decode cX10_room 55 = .ok (.aload_n 0, 1) := by decide +kernel
theorem dX10_room_56 : decode cX10_room 56 = .ok (.getfield 19, 3) := by decide +kernel
theorem dX10_room_59 : decode cX10_room 59 = .ok (.iconst 0, 1) := by decide +kernel
theorem dX10_room_60 : decode cX10_room 60 = .ok (.putfield 135, 3) := by decide +kernel
theorem dX10_room_63 : decode cX10_room 63 = .ok (.aload_n 0, 1) := by decide +kernel
theorem dX10_room_64 : decode cX10_room 64 = .ok (.invokevirtual 138, 3) := by decide +kernel
theorem dX10_room_67 : decode cX10_room 67 = .ok (.aload_n 0, 1) := by decide +kernel
theorem dX10_room_68 : decode cX10_room 68 = .ok (.getfield 19, 3) := by decide +kernel
theorem dX10_room_71 : decode cX10_room 71 = .ok (.getfield 123, 3) := by decide +kernel
theorem dX10_room_74 : decode cX10_room 74 = .ok (.ireturn, 1) := by decide +kernel
theorem dX10_worth_0 : decode cX10_worth 0 = .ok (.aload_n 0, 1) := by decide +kernel
theorem dX10_worth_1 : decode cX10_worth 1 = .ok (.iload_n 1, 1) := by decide +kernel
theorem dX10_worth_2 : decode cX10_worth 2 = .ok (.invokevirtual 141, 3) := by decide +kernel
theorem dX10_worth_5 : decode cX10_worth 5 = .ok (.ifCond .ne 5, 3) := by decide +kernel
theorem dX10_worth_8 : decode cX10_worth 8 = .ok (.iconst (-1), 1) := by decide +kernel
theorem dX10_worth_9 : decode cX10_worth 9 = .ok (.ireturn, 1) := by decide +kernel
theorem dX10_worth_10 : decode cX10_worth 10 = .ok (.iload_n 2, 1) := by decide +kernel
theorem dX10_worth_11 : decode cX10_worth 11 = .ok (.iconst 0, 1) := by decide +kernel
theorem dX10_worth_12 : decode cX10_worth 12 = .ok (.bipush 9, 2) := by decide +kernel
theorem dX10_worth_14 : decode cX10_worth 14 = .ok (.invokestatic 99, 3) := by decide +kernel
theorem dX10_worth_17 : decode cX10_worth 17 = .ok (.ifCond .ne 6, 3) := by decide +kernel
theorem dX10_worth_20 : decode cX10_worth 20 = .ok (.bipush (-2), 2) := by decide +kernel
theorem dX10_worth_22 : decode cX10_worth 22 = .ok (.ireturn, 1) := by decide +kernel
theorem dX10_worth_23 : decode cX10_worth 23 = .ok (.aload_n 0, 1) := by decide +kernel
theorem dX10_worth_24 : decode cX10_worth 24 = .ok (.getfield 19, 3) := by decide +kernel
theorem dX10_worth_27 : decode cX10_worth 27 = .ok (.getfield 126, 3) := by decide +kernel
theorem dX10_worth_30 : decode cX10_worth 30 = .ok (.iload_n 1, 1) := by decide +kernel
theorem dX10_worth_31 : decode cX10_worth 31 = .ok (.iaload, 1) := by decide +kernel
theorem dX10_worth_32 : decode cX10_worth 32 = .ok (.istore_n 3, 1) := by decide +kernel
theorem dX10_worth_33 : decode cX10_worth 33 = .ok (.aload_n 0, 1) := by decide +kernel
theorem dX10_worth_34 : decode cX10_worth 34 = .ok (.getfield 19, 3) := by decide +kernel
theorem dX10_worth_37 : decode cX10_worth 37 = .ok (.getfield 126, 3) := by decide +kernel
theorem dX10_worth_40 : decode cX10_worth 40 = .ok (.iload_n 1, 1) := by decide +kernel
theorem dX10_worth_41 : decode cX10_worth 41 = .ok (.iload_n 2, 1) := by decide +kernel
theorem dX10_worth_42 : decode cX10_worth 42 = .ok (.iastore, 1) := by decide +kernel
theorem dX10_worth_43 : decode cX10_worth 43 = .ok (.iload_n 3, 1) := by decide +kernel
theorem dX10_worth_44 : decode cX10_worth 44 = .ok (.ireturn, 1) := by decide +kernel
theorem dX10_bear_0 : decode cX10_bear 0 = .ok (.iload_n 1, 1) := by decide +kernel
theorem dX10_bear_1 : decode cX10_bear 1 = .ok (.iconst 1, 1) := by decide +kernel
theorem dX10_bear_2 : decode cX10_bear 2 = .ok (.iconst 4, 1) := by decide +kernel
theorem dX10_bear_3 : decode cX10_bear 3 = .ok (.invokestatic 99, 3) := by decide +kernel
theorem dX10_bear_6 : decode cX10_bear 6 = .ok (.ifCond .ne 6, 3) := by decide +kernel
theorem dX10_bear_9 : decode cX10_bear 9 = .ok (.bipush (-2), 2) := by decide +kernel
theorem dX10_bear_11 : decode cX10_bear 11 = .ok (.ireturn, 1) := by decide +kernel
theorem dX10_bear_12 : decode cX10_bear 12 = .ok (.aload_n 0, 1) := by decide +kernel
theorem dX10_bear_13 : decode cX10_bear 13 = .ok (.getfield 19, 3) := by decide +kernel
theorem dX10_bear_16 : decode cX10_bear 16 = .ok (.getfield 144, 3) := by decide +kernel
theorem dX10_bear_19 : decode cX10_bear 19 = .ok (.istore_n 2, 1) := by decide +kernel
theorem dX10_bear_20 : decode cX10_bear 20 = .ok (.iload_n 2, 1) := by decide +kernel
theorem dX10_bear_21 : decode cX10_bear 21 = .ok (.iload_n 1, 1) := by decide +kernel
theorem dX10_bear_22 : decode cX10_bear 22 = .ok (.if_icmp .eq 23, 3) := by decide +kernel
theorem dX10_bear_25 : decode cX10_bear 25 = .ok (.aload_n 0, 1) := by decide +kernel
theorem dX10_bear_26 : decode cX10_bear 26 = .ok (.getfield 19, 3) := by decide +kernel
theorem dX10_bear_29 : decode cX10_bear 29 = .ok (.iload_n 1, 1) := by decide +kernel
theorem dX10_bear_30 : decode cX10_bear 30 = .ok (.putfield 144, 3) := by decide +kernel
theorem dX10_bear_33 : decode cX10_bear 33 = .ok (.aload_n 0, 1) := by decide +kernel
theorem dX10_bear_34 : decode cX10_bear 34 = .ok (.getfield 19, 3) := by decide +kernel
theorem dX10_bear_37 : decode cX10_bear 37 = .ok (.iconst 0, 1) := by decide +kernel
theorem dX10_bear_38 : decode cX10_bear 38 = .ok (.putfield 135, 3) := by decide +kernel
theorem dX10_bear_41 : decode cX10_bear 41 = .ok (.aload_n 0, 1) := by decide +kernel
theorem dX10_bear_42 : decode cX10_bear 42 = .ok (.invokevirtual 138, 3) := by decide +kernel
theorem dX10_bear_45 : decode cX10_bear 45 = .ok (.iload_n 2, 1) := by decide +kernel
theorem dX10_bear_46 : decode cX10_bear 46 = .ok (.ireturn, 1) := by decide +kernel
theorem dX10_far_0 : decode cX10_far 0 = .ok (.aload_n 0, 1) := by decide +kernel
theorem dX10_far_1 : decode cX10_far 1 = .ok (.iload_n 1, 1) := by decide +kernel
theorem dX10_far_2 : decode cX10_far 2 = .ok (.invokevirtual 141, 3) := by decide +kernel
theorem dX10_far_5 : decode cX10_far 5 = .ok (.ifCond .eq 11, 3) := by decide +kernel
theorem dX10_far_8 : decode cX10_far 8 = .ok (.aload_n 0, 1) := by decide +kernel
theorem dX10_far_9 : decode cX10_far 9 = .ok (.iload_n 2, 1) := by decide +kernel
theorem dX10_far_10 : decode cX10_far 10 = .ok (.invokevirtual 141, 3) := by decide +kernel
theorem dX10_far_13 : decode cX10_far 13 = .ok (.ifCond .ne 5, 3) := by decide +kernel
theorem dX10_far_16 : decode cX10_far 16 = .ok (.iconst (-1), 1) := by decide +kernel
theorem dX10_far_17 : decode cX10_far 17 = .ok (.ireturn, 1) := by decide +kernel
theorem dX10_far_18 : decode cX10_far 18 = .ok (.aload_n 0, 1) := by decide +kernel
theorem dX10_far_19 : decode cX10_far 19 = .ok (.getfield 32, 3) := by decide +kernel
theorem dX10_far_22 : decode cX10_far 22 = .ok (.iload_n 1, 1) := by decide +kernel
theorem dX10_far_23 : decode cX10_far 23 = .ok (.iload_n 2, 1) := by decide +kernel
theorem dX10_far_24 : decode cX10_far 24 = .ok (.invokevirtual 147, 3) := by decide +kernel
theorem dX10_far_27 : decode cX10_far 27 = .ok (.ireturn, 1) := by decide +kernel
theorem dX10_may_0 : decode cX10_may 0 = .ok (.aload_n 0, 1) := by decide +kernel
theorem dX10_may_1 : decode cX10_may 1 = .ok (.iload_n 1, 1) := by decide +kernel
theorem dX10_may_2 : decode cX10_may 2 = .ok (.invokevirtual 151, 3) := by decide +kernel
theorem dX10_may_5 : decode cX10_may 5 = .ok (.istore_n 2, 1) := by decide +kernel
theorem dX10_may_6 : decode cX10_may 6 = .ok (.iload_n 2, 1) := by decide +kernel
theorem dX10_may_7 : decode cX10_may 7 = .ok (.ifCond .eq 7, 3) := by decide +kernel
theorem dX10_may_10 : decode cX10_may 10 = .ok (.iload_n 2, 1) := by decide +kernel
theorem dX10_may_11 : decode cX10_may 11 = .ok (.goto 10, 3) := by decide +kernel
theorem dX10_may_14 : decode cX10_may 14 = .ok (.aload_n 0, 1) := by decide +kernel
theorem dX10_may_15 : decode cX10_may 15 = .ok (.getfield 44, 3) := by decide +kernel
theorem dX10_may_18 : decode cX10_may 18 = .ok (.invokevirtual 155, 3) := by decide +kernel
theorem dX10_may_21 : decode cX10_may 21 = .ok (.ireturn, 1) := by decide +kernel
theorem dX10_takes_0 : decode cX10_takes 0 = .ok (.iload_n 2, 1) := by decide +kernel
theorem dX10_takes_1 : decode cX10_takes 1 = .ok (.invokestatic 158, 3) := by decide +kernel
theorem dX10_takes_4 : decode cX10_takes 4 = .ok (.ifCond .ne 6, 3) := by decide +kernel
theorem dX10_takes_7 : decode cX10_takes 7 = .ok (.bipush (-2), 2) := by decide +kernel
theorem dX10_takes_9 : decode cX10_takes 9 = .ok (.ireturn, 1) := by decide +kernel
theorem dX10_takes_10 : decode cX10_takes 10 = .ok (.aload_n 0, 1) := by decide +kernel
theorem dX10_takes_11 : decode cX10_takes 11 = .ok (.iload_n 1, 1) := by decide +kernel
theorem dX10_takes_12 : decode cX10_takes 12 = .ok (.invokevirtual 151, 3) := by decide +kernel
theorem dX10_takes_15 : decode cX10_takes 15 = .ok (.istore_n 3, 1) := by decide +kernel
theorem dX10_takes_16 : decode cX10_takes 16 = .ok (.iload_n 3, 1) := by decide +kernel
theorem dX10_takes_17 : decode cX10_takes 17 = .ok (.ifCond .eq 7, 3) := by decide +kernel
theorem dX10_takes_20 : decode cX10_takes 20 = .ok (.iload_n 3, 1) := by decide +kernel
theorem dX10_takes_21 : decode cX10_takes 21 = .ok (.goto 11, 3) := by decide +kernel
theorem dX10_takes_24 : decode cX10_takes 24 = .ok (.aload_n 0, 1) := by decide +kernel
theorem dX10_takes_25 : decode cX10_takes 25 = .ok (.getfield 44, 3) := by decide +kernel
theorem dX10_takes_28 : decode cX10_takes 28 = .ok (.iload_n 2, 1) := by decide +kernel
theorem dX10_takes_29 : decode cX10_takes 29 = .ok (.invokevirtual 161, 3) := by decide +kernel
theorem dX10_takes_32 : decode cX10_takes 32 = .ok (.ireturn, 1) := by decide +kernel
theorem dX10_fill_0 : decode cX10_fill 0 = .ok (.iload_n 2, 1) := by decide +kernel
theorem dX10_fill_1 : decode cX10_fill 1 = .ok (.invokestatic 158, 3) := by decide +kernel
theorem dX10_fill_4 : decode cX10_fill 4 = .ok (.ifCond .ne 6, 3) := by decide +kernel
theorem dX10_fill_7 : decode cX10_fill 7 = .ok (.bipush (-2), 2) := by decide +kernel
theorem dX10_fill_9 : decode cX10_fill 9 = .ok (.ireturn, 1) := by decide +kernel
theorem dX10_fill_10 : decode cX10_fill 10 = .ok (.aload_n 0, 1) := by decide +kernel
theorem dX10_fill_11 : decode cX10_fill 11 = .ok (.iload_n 1, 1) := by decide +kernel
theorem dX10_fill_12 : decode cX10_fill 12 = .ok (.invokevirtual 151, 3) := by decide +kernel
theorem dX10_fill_15 : decode cX10_fill 15 = .ok (.istore_n 3, 1) := by decide +kernel
theorem dX10_fill_16 : decode cX10_fill 16 = .ok (.iload_n 3, 1) := by decide +kernel
theorem dX10_fill_17 : decode cX10_fill 17 = .ok (.ifCond .eq 5, 3) := by decide +kernel
theorem dX10_fill_20 : decode cX10_fill 20 = .ok (.iload_n 3, 1) := by decide +kernel
theorem dX10_fill_21 : decode cX10_fill 21 = .ok (.ireturn, 1) := by decide +kernel
theorem dX10_fill_22 : decode cX10_fill 22 = .ok (.aload_n 0, 1) := by decide +kernel
theorem dX10_fill_23 : decode cX10_fill 23 = .ok (.getfield 44, 3) := by decide +kernel
theorem dX10_fill_26 : decode cX10_fill 26 = .ok (.iload_n 2, 1) := by decide +kernel
theorem dX10_fill_27 : decode cX10_fill 27 = .ok (.invokevirtual 164, 3) := by decide +kernel
theorem dX10_fill_30 : decode cX10_fill 30 = .ok (.aload_n 0, 1) := by decide +kernel
theorem dX10_fill_31 : decode cX10_fill 31 = .ok (.getfield 44, 3) := by decide +kernel
theorem dX10_fill_34 : decode cX10_fill 34 = .ok (.getfield 167, 3) := by decide +kernel
theorem dX10_fill_37 : decode cX10_fill 37 = .ok (.ireturn, 1) := by decide +kernel
theorem dX10_whole_0 : decode cX10_whole 0 = .ok (.iload_n 1, 1) := by decide +kernel
theorem dX10_whole_1 : decode cX10_whole 1 = .ok (.iconst 0, 1) := by decide +kernel
theorem dX10_whole_2 : decode cX10_whole 2 = .ok (.iconst 3, 1) := by decide +kernel
theorem dX10_whole_3 : decode cX10_whole 3 = .ok (.invokestatic 99, 3) := by decide +kernel
theorem dX10_whole_6 : decode cX10_whole 6 = .ok (.ifCond .ne 6, 3) := by decide +kernel
theorem dX10_whole_9 : decode cX10_whole 9 = .ok (.bipush (-2), 2) := by decide +kernel
theorem dX10_whole_11 : decode cX10_whole 11 = .ok (.ireturn, 1) := by decide +kernel
theorem dX10_whole_12 : decode cX10_whole 12 = .ok (.aload_n 0, 1) := by decide +kernel
theorem dX10_whole_13 : decode cX10_whole 13 = .ok (.getfield 61, 3) := by decide +kernel
theorem dX10_whole_16 : decode cX10_whole 16 = .ok (.aload_n 0, 1) := by decide +kernel
theorem dX10_whole_17 : decode cX10_whole 17 = .ok (.getfield 32, 3) := by decide +kernel
theorem dX10_whole_20 : decode cX10_whole 20 = .ok (.aload_n 0, 1) := by decide +kernel
theorem dX10_whole_21 : decode cX10_whole 21 = .ok (.getfield 54, 3) := by decide +kernel
theorem dX10_whole_24 : decode cX10_whole 24 = .ok (.invokevirtual 170, 3) := by decide +kernel
theorem dX10_whole_27 : decode cX10_whole 27 = .ok (.iload_n 1, 1) := by decide +kernel
theorem dX10_whole_28 : decode cX10_whole 28 = .ok (.ifCond .eq 8, 3) := by decide +kernel
theorem dX10_whole_31 : decode cX10_whole 31 = .ok (.iload_n 1, 1) := by decide +kernel
theorem dX10_whole_32 : decode cX10_whole 32 = .ok (.iconst 2, 1) := by decide +kernel
theorem dX10_whole_33 : decode cX10_whole 33 = .ok (.if_icmp .ne 13, 3) := by decide +kernel
theorem dX10_whole_36 : decode cX10_whole 36 = .ok (.aload_n 0, 1) := by decide +kernel
theorem dX10_whole_37 : decode cX10_whole 37 = .ok (.getfield 61, 3) := by decide +kernel
theorem dX10_whole_40 : decode cX10_whole 40 = .ok (.getfield 174, 3) := by decide +kernel
theorem dX10_whole_43 : decode cX10_whole 43 = .ok (.goto 10, 3) := by decide +kernel
theorem dX10_whole_46 : decode cX10_whole 46 = .ok (.aload_n 0, 1) := by decide +kernel
theorem dX10_whole_47 : decode cX10_whole 47 = .ok (.getfield 61, 3) := by decide +kernel
theorem dX10_whole_50 : decode cX10_whole 50 = .ok (.getfield 177, 3) := by decide +kernel
theorem dX10_whole_53 : decode cX10_whole 53 = .ok (.istore_n 2, 1) := by decide +kernel
theorem dX10_whole_54 : decode cX10_whole 54 = .ok (.iload_n 1, 1) := by decide +kernel
theorem dX10_whole_55 : decode cX10_whole 55 = .ok (.iconst 2, 1) := by decide +kernel
theorem dX10_whole_56 : decode cX10_whole 56 = .ok (.if_icmp .ge 7, 3) := by decide +kernel
theorem dX10_whole_59 : decode cX10_whole 59 = .ok (.iload_n 2, 1) := by decide +kernel
theorem dX10_whole_60 : decode cX10_whole 60 = .ok (.goto 7, 3) := by decide +kernel
theorem dX10_whole_63 : decode cX10_whole 63 = .ok (.iload_n 2, 1) := by decide +kernel
theorem dX10_whole_64 : decode cX10_whole 64 = .ok (.invokestatic 180, 3) := by decide +kernel
theorem dX10_whole_67 : decode cX10_whole 67 = .ok (.ireturn, 1) := by decide +kernel
theorem dX10_ways_0 : decode cX10_ways 0 = .ok (.iload_n 1, 1) := by decide +kernel
theorem dX10_ways_1 : decode cX10_ways 1 = .ok (.iconst 0, 1) := by decide +kernel
theorem dX10_ways_2 : decode cX10_ways 2 = .ok (.bipush 12, 2) := by decide +kernel
theorem dX10_ways_4 : decode cX10_ways 4 = .ok (.invokestatic 99, 3) := by decide +kernel
theorem dX10_ways_7 : decode cX10_ways 7 = .ok (.ifCond .ne 6, 3) := by decide +kernel
theorem dX10_ways_10 : decode cX10_ways 10 = .ok (.bipush (-2), 2) := by decide +kernel
theorem dX10_ways_12 : decode cX10_ways 12 = .ok (.ireturn, 1) := by decide +kernel
theorem dX10_ways_13 : decode cX10_ways 13 = .ok (.aload_n 0, 1) := by decide +kernel
theorem dX10_ways_14 : decode cX10_ways 14 = .ok (.getfield 61, 3) := by decide +kernel
theorem dX10_ways_17 : decode cX10_ways 17 = .ok (.aload_n 0, 1) := by decide +kernel
theorem dX10_ways_18 : decode cX10_ways 18 = .ok (.getfield 32, 3) := by decide +kernel
theorem dX10_ways_21 : decode cX10_ways 21 = .ok (.aload_n 0, 1) := by decide +kernel
theorem dX10_ways_22 : decode cX10_ways 22 = .ok (.getfield 54, 3) := by decide +kernel
theorem dX10_ways_25 : decode cX10_ways 25 = .ok (.invokevirtual 170, 3) := by decide +kernel
theorem dX10_ways_28 : decode cX10_ways 28 = .ok (.aload_n 0, 1) := by decide +kernel
theorem dX10_ways_29 : decode cX10_ways 29 = .ok (.getfield 61, 3) := by decide +kernel
theorem dX10_ways_32 : decode cX10_ways 32 = .ok (.getfield 185, 3) := by decide +kernel
theorem dX10_ways_35 : decode cX10_ways 35 = .ok (.iload_n 1, 1) := by decide +kernel
theorem dX10_ways_36 : decode cX10_ways 36 = .ok (.iaload, 1) := by decide +kernel
theorem dX10_ways_37 : decode cX10_ways 37 = .ok (.ireturn, 1) := by decide +kernel
theorem dX10_mean_0 : decode cX10_mean 0 = .ok (.iload_n 1, 1) := by decide +kernel
theorem dX10_mean_1 : decode cX10_mean 1 = .ok (.iconst 0, 1) := by decide +kernel
theorem dX10_mean_2 : decode cX10_mean 2 = .ok (.iconst 1, 1) := by decide +kernel
theorem dX10_mean_3 : decode cX10_mean 3 = .ok (.invokestatic 99, 3) := by decide +kernel
theorem dX10_mean_6 : decode cX10_mean 6 = .ok (.ifCond .ne 7, 3) := by decide +kernel
theorem dX10_mean_9 : decode cX10_mean 9 = .ok (.ldc2_w 188, 3) := by decide +kernel
theorem dX10_mean_12 : decode cX10_mean 12 = .ok (.lreturn, 1) := by decide +kernel
theorem dX10_mean_13 : decode cX10_mean 13 = .ok (.aload_n 0, 1) := by decide +kernel
theorem dX10_mean_14 : decode cX10_mean 14 = .ok (.getfield 61, 3) := by decide +kernel
theorem dX10_mean_17 : decode cX10_mean 17 = .ok (.aload_n 0, 1) := by decide +kernel
theorem dX10_mean_18 : decode cX10_mean 18 = .ok (.getfield 32, 3) := by decide +kernel
theorem dX10_mean_21 : decode cX10_mean 21 = .ok (.aload_n 0, 1) := by decide +kernel
theorem dX10_mean_22 : decode cX10_mean 22 = .ok (.getfield 54, 3) := by decide +kernel
theorem dX10_mean_25 : decode cX10_mean 25 = .ok (.invokevirtual 170, 3) := by decide +kernel
theorem dX10_mean_28 : decode cX10_mean 28 = .ok (.aload_n 0, 1) := by decide +kernel
theorem dX10_mean_29 : decode cX10_mean 29 = .ok (.getfield 61, 3) := by decide +kernel
theorem dX10_mean_32 : decode cX10_mean 32 = .ok (.invokevirtual 190, 3) := by decide +kernel
theorem dX10_mean_35 : decode cX10_mean 35 = .ok (.ldc2_w 194, 3) := by decide +kernel
theorem dX10_mean_38 : decode cX10_mean 38 = .ok (.iload_n 1, 1) := by decide +kernel
theorem dX10_mean_39 : decode cX10_mean 39 = .ok (.invokestatic 196, 3) := by decide +kernel
theorem dX10_mean_42 : decode cX10_mean 42 = .ok (.lreturn, 1) := by decide +kernel
theorem dX10_odds_0 : decode cX10_odds 0 = .ok (.iload_n 1, 1) := by decide +kernel
theorem dX10_odds_1 : decode cX10_odds 1 = .ok (.iconst 0, 1) := by decide +kernel
theorem dX10_odds_2 : decode cX10_odds 2 = .ok (.bipush 12, 2) := by decide +kernel
theorem dX10_odds_4 : decode cX10_odds 4 = .ok (.invokestatic 99, 3) := by decide +kernel
theorem dX10_odds_7 : decode cX10_odds 7 = .ok (.ifCond .eq 12, 3) := by decide +kernel
theorem dX10_odds_10 : decode cX10_odds 10 = .ok (.iload_n 2, 1) := by decide +kernel
theorem dX10_odds_11 : decode cX10_odds 11 = .ok (.iconst 0, 1) := by decide +kernel
theorem dX10_odds_12 : decode cX10_odds 12 = .ok (.iconst 1, 1) := by decide +kernel
theorem dX10_odds_13 : decode cX10_odds 13 = .ok (.invokestatic 99, 3) := by decide +kernel
theorem dX10_odds_16 : decode cX10_odds 16 = .ok (.ifCond .ne 7, 3) := by decide +kernel
theorem dX10_odds_19 : decode cX10_odds 19 = .ok (.ldc2_w 188, 3) := by decide +kernel
theorem dX10_odds_22 : decode cX10_odds 22 = .ok (.lreturn, 1) := by decide +kernel
theorem dX10_odds_23 : decode cX10_odds 23 = .ok (.aload_n 0, 1) := by decide +kernel
theorem dX10_odds_24 : decode cX10_odds 24 = .ok (.getfield 61, 3) := by decide +kernel
theorem dX10_odds_27 : decode cX10_odds 27 = .ok (.aload_n 0, 1) := by decide +kernel
theorem dX10_odds_28 : decode cX10_odds 28 = .ok (.getfield 32, 3) := by decide +kernel
theorem dX10_odds_31 : decode cX10_odds 31 = .ok (.aload_n 0, 1) := by decide +kernel
theorem dX10_odds_32 : decode cX10_odds 32 = .ok (.getfield 54, 3) := by decide +kernel
theorem dX10_odds_35 : decode cX10_odds 35 = .ok (.invokevirtual 170, 3) := by decide +kernel
theorem dX10_odds_38 : decode cX10_odds 38 = .ok (.aload_n 0, 1) := by decide +kernel
theorem dX10_odds_39 : decode cX10_odds 39 = .ok (.getfield 61, 3) := by decide +kernel
theorem dX10_odds_42 : decode cX10_odds 42 = .ok (.getfield 200, 3) := by decide +kernel
theorem dX10_odds_45 : decode cX10_odds 45 = .ok (.iload_n 1, 1) := by decide +kernel
theorem dX10_odds_46 : decode cX10_odds 46 = .ok (.laload, 1) := by decide +kernel
theorem dX10_odds_47 : decode cX10_odds 47 = .ok (.ldc2_w 194, 3) := by decide +kernel
theorem dX10_odds_50 : decode cX10_odds 50 = .ok (.iload_n 2, 1) := by decide +kernel
theorem dX10_odds_51 : decode cX10_odds 51 = .ok (.invokestatic 196, 3) := by decide +kernel
theorem dX10_odds_54 : decode cX10_odds 54 = .ok (.lreturn, 1) := by decide +kernel
theorem dX10_first_0 : decode cX10_first 0 = .ok (.iload_n 1, 1) := by decide +kernel
theorem dX10_first_1 : decode cX10_first 1 = .ok (.invokestatic 158, 3) := by decide +kernel
theorem dX10_first_4 : decode cX10_first 4 = .ok (.ifCond .eq 12, 3) := by decide +kernel
theorem dX10_first_7 : decode cX10_first 7 = .ok (.iload_n 2, 1) := by decide +kernel
theorem dX10_first_8 : decode cX10_first 8 = .ok (.iconst 0, 1) := by decide +kernel
theorem dX10_first_9 : decode cX10_first 9 = .ok (.iconst 3, 1) := by decide +kernel
theorem dX10_first_10 : decode cX10_first 10 = .ok (.invokestatic 99, 3) := by decide +kernel
theorem dX10_first_13 : decode cX10_first 13 = .ok (.ifCond .ne 6, 3) := by decide +kernel
theorem dX10_first_16 : decode cX10_first 16 = .ok (.bipush (-2), 2) := by decide +kernel
theorem dX10_first_18 : decode cX10_first 18 = .ok (.ireturn, 1) := by decide +kernel
theorem dX10_first_19 : decode cX10_first 19 = .ok (.iload_n 2, 1) := by decide +kernel
theorem dX10_first_20 : decode cX10_first 20 = .ok (.ifCond .eq 8, 3) := by decide +kernel
theorem dX10_first_23 : decode cX10_first 23 = .ok (.iload_n 2, 1) := by decide +kernel
theorem dX10_first_24 : decode cX10_first 24 = .ok (.iconst 2, 1) := by decide +kernel
theorem dX10_first_25 : decode cX10_first 25 = .ok (.if_icmp .ne 7, 3) := by decide +kernel
theorem dX10_first_28 : decode cX10_first 28 = .ok (.iconst 1, 1) := by decide +kernel
theorem dX10_first_29 : decode cX10_first 29 = .ok (.goto 4, 3) := by decide +kernel
theorem dX10_first_32 : decode cX10_first 32 = .ok (.iconst 0, 1) := by decide +kernel
theorem dX10_first_33 : decode cX10_first 33 = .ok (.istore_n 3, 1) := by decide +kernel
theorem dX10_first_34 : decode cX10_first 34 = .ok (.iconst 0, 1) := by decide +kernel
theorem dX10_first_35 : decode cX10_first 35 = .ok (.istore 4, 2) := by decide +kernel
theorem dX10_first_37 : decode cX10_first 37 = .ok (.aload_n 0, 1) := by decide +kernel
theorem dX10_first_38 : decode cX10_first 38 = .ok (.iconst 0, 1) := by decide +kernel
theorem dX10_first_39 : decode cX10_first 39 = .ok (.iload_n 1, 1) := by decide +kernel
theorem dX10_first_40 : decode cX10_first 40 = .ok (.invokevirtual 204, 3) := by decide +kernel
theorem dX10_first_43 : decode cX10_first 43 = .ok (.istore 5, 2) := by decide +kernel
theorem dX10_first_45 : decode cX10_first 45 = .ok (.iconst 1, 1) := by decide +kernel
theorem dX10_first_46 : decode cX10_first 46 = .ok (.istore 6, 2) := by decide +kernel
theorem dX10_first_48 : decode cX10_first 48 = .ok (.iload 6, 2) := by decide +kernel
theorem dX10_first_50 : decode cX10_first 50 = .ok (.aload_n 0, 1) := by decide +kernel
theorem dX10_first_51 : decode cX10_first 51 = .ok (.getfield 19, 3) := by decide +kernel
theorem dX10_first_54 : decode cX10_first 54 = .ok (.getfield 123, 3) := by decide +kernel
theorem dX10_first_57 : decode cX10_first 57 = .ok (.if_icmp .ge 47, 3) := by decide +kernel
theorem dX10_first_60 : decode cX10_first 60 = .ok (.aload_n 0, 1) := by decide +kernel
theorem dX10_first_61 : decode cX10_first 61 = .ok (.iload 6, 2) := by decide +kernel
theorem dX10_first_63 : decode cX10_first 63 = .ok (.iload_n 1, 1) := by decide +kernel
theorem dX10_first_64 : decode cX10_first 64 = .ok (.invokevirtual 204, 3) := by decide +kernel
theorem dX10_first_67 : decode cX10_first 67 = .ok (.istore 7, 2) := by decide +kernel
theorem dX10_first_69 : decode cX10_first 69 = .ok (.iload_n 3, 1) := by decide +kernel
theorem dX10_first_70 : decode cX10_first 70 = .ok (.ifCond .eq 13, 3) := by decide +kernel
theorem dX10_first_73 : decode cX10_first 73 = .ok (.iload 7, 2) := by decide +kernel
theorem dX10_first_75 : decode cX10_first 75 = .ok (.iload 5, 2) := by decide +kernel
theorem dX10_first_77 : decode cX10_first 77 = .ok (.if_icmp .le 21, 3) := by decide +kernel
theorem dX10_first_80 : decode cX10_first 80 = .ok (.goto 10, 3) := by decide +kernel
theorem dX10_first_83 : decode cX10_first 83 = .ok (.iload 7, 2) := by decide +kernel
theorem dX10_first_85 : decode cX10_first 85 = .ok (.iload 5, 2) := by decide +kernel
theorem dX10_first_87 : decode cX10_first 87 = .ok (.if_icmp .ge 11, 3) := by decide +kernel
theorem dX10_first_90 : decode cX10_first 90 = .ok (.iload 7, 2) := by decide +kernel
theorem dX10_first_92 : decode cX10_first 92 = .ok (.istore 5, 2) := by decide +kernel
theorem dX10_first_94 : decode cX10_first 94 = .ok (.iload 6, 2) := by decide +kernel
theorem dX10_first_96 : decode cX10_first 96 = .ok (.istore 4, 2) := by decide +kernel
theorem dX10_first_98 : decode cX10_first 98 = .ok (.iinc 6 1, 3) := by decide +kernel
theorem dX10_first_101 : decode cX10_first 101 = .ok (.goto (-53), 3) := by decide +kernel
theorem dX10_first_104 : decode cX10_first 104 = .ok (.iload_n 2, 1) := by decide +kernel
theorem dX10_first_105 : decode cX10_first 105 = .ok (.iconst 2, 1) := by decide +kernel
theorem dX10_first_106 : decode cX10_first 106 = .ok (.if_icmp .ge 8, 3) := by decide +kernel
theorem dX10_first_109 : decode cX10_first 109 = .ok (.iload 4, 2) := by decide +kernel
theorem dX10_first_111 : decode cX10_first 111 = .ok (.goto 5, 3) := by decide +kernel
theorem dX10_first_114 : decode cX10_first 114 = .ok (.iload 5, 2) := by decide +kernel
theorem dX10_first_116 : decode cX10_first 116 = .ok (.ireturn, 1) := by decide +kernel
theorem dX10_game_0 : decode cX10_game 0 = .ok (.iload_n 2, 1) := by decide +kernel
theorem dX10_game_1 : decode cX10_game 1 = .ok (.iconst 0, 1) := by decide +kernel
theorem dX10_game_2 : decode cX10_game 2 = .ok (.iconst 1, 1) := by decide +kernel
theorem dX10_game_3 : decode cX10_game 3 = .ok (.invokestatic 99, 3) := by decide +kernel
theorem dX10_game_6 : decode cX10_game 6 = .ok (.ifCond .eq 12, 3) := by decide +kernel
theorem dX10_game_9 : decode cX10_game 9 = .ok (.iload_n 3, 1) := by decide +kernel
theorem dX10_game_10 : decode cX10_game 10 = .ok (.iconst 0, 1) := by decide +kernel
theorem dX10_game_11 : decode cX10_game 11 = .ok (.iconst 1, 1) := by decide +kernel
theorem dX10_game_12 : decode cX10_game 12 = .ok (.invokestatic 99, 3) := by decide +kernel
theorem dX10_game_15 : decode cX10_game 15 = .ok (.ifCond .ne 6, 3) := by decide +kernel
theorem dX10_game_18 : decode cX10_game 18 = .ok (.bipush (-2), 2) := by decide +kernel
theorem dX10_game_20 : decode cX10_game 20 = .ok (.ireturn, 1) := by decide +kernel
theorem dX10_game_21 : decode cX10_game 21 = .ok (.aload_n 0, 1) := by decide +kernel
theorem dX10_game_22 : decode cX10_game 22 = .ok (.iload_n 1, 1) := by decide +kernel
theorem dX10_game_23 : decode cX10_game 23 = .ok (.invokevirtual 151, 3) := by decide +kernel
theorem dX10_game_26 : decode cX10_game 26 = .ok (.istore 4, 2) := by decide +kernel
theorem dX10_game_28 : decode cX10_game 28 = .ok (.iload 4, 2) := by decide +kernel
theorem dX10_game_30 : decode cX10_game 30 = .ok (.ifCond .eq 6, 3) := by decide +kernel
theorem dX10_game_33 : decode cX10_game 33 = .ok (.iload 4, 2) := by decide +kernel
theorem dX10_game_35 : decode cX10_game 35 = .ok (.ireturn, 1) := by decide +kernel
theorem dX10_game_36 : decode cX10_game 36 = .ok (.aload_n 0, 1) := by decide +kernel
theorem dX10_game_37 : decode cX10_game 37 = .ok (.getfield 68, 3) := by decide +kernel
theorem dX10_game_40 : decode cX10_game 40 = .ok (.aload_n 0, 1) := by decide +kernel
theorem dX10_game_41 : decode cX10_game 41 = .ok (.getfield 32, 3) := by decide +kernel
theorem dX10_game_44 : decode cX10_game 44 = .ok (.aload_n 0, 1) := by decide +kernel
theorem dX10_game_45 : decode cX10_game 45 = .ok (.getfield 54, 3) := by decide +kernel
theorem dX10_game_48 : decode cX10_game 48 = .ok (.invokevirtual 207, 3) := by decide +kernel
theorem dX10_game_51 : decode cX10_game 51 = .ok (.iload_n 3, 1) := by decide +kernel
theorem dX10_game_52 : decode cX10_game 52 = .ok (.ifCond .ne 15, 3) := by decide +kernel
theorem dX10_game_55 : decode cX10_game 55 = .ok (.aload_n 0, 1) := by decide +kernel
theorem dX10_game_56 : decode cX10_game 56 = .ok (.getfield 68, 3) := by decide +kernel
theorem dX10_game_59 : decode cX10_game 59 = .ok (.iload_n 1, 1) := by decide +kernel
theorem dX10_game_60 : decode cX10_game 60 = .ok (.iload_n 2, 1) := by decide +kernel
theorem dX10_game_61 : decode cX10_game 61 = .ok (.invokevirtual 210, 3) := by decide +kernel
theorem dX10_game_64 : decode cX10_game 64 = .ok (.goto 19, 3) := by decide +kernel
theorem dX10_game_67 : decode cX10_game 67 = .ok (.aload_n 0, 1) := by decide +kernel
theorem dX10_game_68 : decode cX10_game 68 = .ok (.getfield 68, 3) := by decide +kernel
theorem dX10_game_71 : decode cX10_game 71 = .ok (.iload_n 1, 1) := by decide +kernel
theorem dX10_game_72 : decode cX10_game 72 = .ok (.aload_n 0, 1) := by decide +kernel
theorem dX10_game_73 : decode cX10_game 73 = .ok (.getfield 44, 3) := by decide +kernel
theorem dX10_game_76 : decode cX10_game 76 = .ok (.invokevirtual 155, 3) := by decide +kernel
theorem dX10_game_79 : decode cX10_game 79 = .ok (.iload_n 2, 1) := by decide +kernel
theorem dX10_game_80 : decode cX10_game 80 = .ok (.invokevirtual 213, 3) := by decide +kernel
theorem dX10_game_83 : decode cX10_game 83 = .ok (.ireturn, 1) := by decide +kernel
theorem dX10_pairs_0 : decode cX10_pairs 0 = .ok (.iload_n 1, 1) := by decide +kernel
theorem dX10_pairs_1 : decode cX10_pairs 1 = .ok (.iconst 0, 1) := by decide +kernel
theorem dX10_pairs_2 : decode cX10_pairs 2 = .ok (.iconst 1, 1) := by decide +kernel
theorem dX10_pairs_3 : decode cX10_pairs 3 = .ok (.invokestatic 99, 3) := by decide +kernel
theorem dX10_pairs_6 : decode cX10_pairs 6 = .ok (.ifCond .ne 6, 3) := by decide +kernel
theorem dX10_pairs_9 : decode cX10_pairs 9 = .ok (.bipush (-2), 2) := by decide +kernel
theorem dX10_pairs_11 : decode cX10_pairs 11 = .ok (.ireturn, 1) := by decide +kernel
theorem dX10_pairs_12 : decode cX10_pairs 12 = .ok (.aload_n 0, 1) := by decide +kernel
theorem dX10_pairs_13 : decode cX10_pairs 13 = .ok (.getfield 75, 3) := by decide +kernel
theorem dX10_pairs_16 : decode cX10_pairs 16 = .ok (.aload_n 0, 1) := by decide +kernel
theorem dX10_pairs_17 : decode cX10_pairs 17 = .ok (.getfield 32, 3) := by decide +kernel
theorem dX10_pairs_20 : decode cX10_pairs 20 = .ok (.invokevirtual 217, 3) := by decide +kernel
theorem dX10_pairs_23 : decode cX10_pairs 23 = .ok (.iload_n 1, 1) := by decide +kernel
theorem dX10_pairs_24 : decode cX10_pairs 24 = .ok (.ifCond .ne 17, 3) := by decide +kernel
theorem dX10_pairs_27 : decode cX10_pairs 27 = .ok (.aload_n 0, 1) := by decide +kernel
theorem dX10_pairs_28 : decode cX10_pairs 28 = .ok (.getfield 75, 3) := by decide +kernel
theorem dX10_pairs_31 : decode cX10_pairs 31 = .ok (.aload_n 0, 1) := by decide +kernel
theorem dX10_pairs_32 : decode cX10_pairs 32 = .ok (.getfield 44, 3) := by decide +kernel
theorem dX10_pairs_35 : decode cX10_pairs 35 = .ok (.invokevirtual 220, 3) := by decide +kernel
theorem dX10_pairs_38 : decode cX10_pairs 38 = .ok (.goto 14, 3) := by decide +kernel
theorem dX10_pairs_41 : decode cX10_pairs 41 = .ok (.aload_n 0, 1) := by decide +kernel
theorem dX10_pairs_42 : decode cX10_pairs 42 = .ok (.getfield 75, 3) := by decide +kernel
theorem dX10_pairs_45 : decode cX10_pairs 45 = .ok (.aload_n 0, 1) := by decide +kernel
theorem dX10_pairs_46 : decode cX10_pairs 46 = .ok (.getfield 54, 3) := by decide +kernel
theorem dX10_pairs_49 : decode cX10_pairs 49 = .ok (.invokevirtual 224, 3) := by decide +kernel
theorem dX10_pairs_52 : decode cX10_pairs 52 = .ok (.ireturn, 1) := by decide +kernel
theorem dX10_late_0 : decode cX10_late 0 = .ok (.iload_n 1, 1) := by decide +kernel
theorem dX10_late_1 : decode cX10_late 1 = .ok (.invokestatic 158, 3) := by decide +kernel
theorem dX10_late_4 : decode cX10_late 4 = .ok (.ifCond .eq 18, 3) := by decide +kernel
theorem dX10_late_7 : decode cX10_late 7 = .ok (.iload_n 2, 1) := by decide +kernel
theorem dX10_late_8 : decode cX10_late 8 = .ok (.iconst 1, 1) := by decide +kernel
theorem dX10_late_9 : decode cX10_late 9 = .ok (.aload_n 0, 1) := by decide +kernel
theorem dX10_late_10 : decode cX10_late 10 = .ok (.getfield 19, 3) := by decide +kernel
theorem dX10_late_13 : decode cX10_late 13 = .ok (.getfield 144, 3) := by decide +kernel
theorem dX10_late_16 : decode cX10_late 16 = .ok (.invokestatic 99, 3) := by decide +kernel
theorem dX10_late_19 : decode cX10_late 19 = .ok (.ifCond .ne 6, 3) := by decide +kernel
theorem dX10_late_22 : decode cX10_late 22 = .ok (.bipush (-2), 2) := by decide +kernel
theorem dX10_late_24 : decode cX10_late 24 = .ok (.ireturn, 1) := by decide +kernel
theorem dX10_late_25 : decode cX10_late 25 = .ok (.aload_n 0, 1) := by decide +kernel
theorem dX10_late_26 : decode cX10_late 26 = .ok (.getfield 44, 3) := by decide +kernel
theorem dX10_late_29 : decode cX10_late 29 = .ok (.invokevirtual 228, 3) := by decide +kernel
theorem dX10_late_32 : decode cX10_late 32 = .ok (.aload_n 0, 1) := by decide +kernel
theorem dX10_late_33 : decode cX10_late 33 = .ok (.getfield 19, 3) := by decide +kernel
theorem dX10_late_36 : decode cX10_late 36 = .ok (.getfield 144, 3) := by decide +kernel
theorem dX10_late_39 : decode cX10_late 39 = .ok (.istore_n 3, 1) := by decide +kernel
theorem dX10_late_40 : decode cX10_late 40 = .ok (.iload_n 3, 1) := by decide +kernel
theorem dX10_late_41 : decode cX10_late 41 = .ok (.iload_n 2, 1) := by decide +kernel
theorem dX10_late_42 : decode cX10_late 42 = .ok (.if_icmp .lt 25, 3) := by decide +kernel
theorem dX10_late_45 : decode cX10_late 45 = .ok (.aload_n 0, 1) := by decide +kernel
theorem dX10_late_46 : decode cX10_late 46 = .ok (.getfield 44, 3) := by decide +kernel
theorem dX10_late_49 : decode cX10_late 49 = .ok (.iload_n 3, 1) := by decide +kernel
theorem dX10_late_50 : decode cX10_late 50 = .ok (.putfield 231, 3) := by decide +kernel
theorem dX10_late_53 : decode cX10_late 53 = .ok (.aload_n 0, 1) := by decide +kernel
theorem dX10_late_54 : decode cX10_late 54 = .ok (.getfield 44, 3) := by decide +kernel
theorem dX10_late_57 : decode cX10_late 57 = .ok (.iload_n 1, 1) := by decide +kernel
theorem dX10_late_58 : decode cX10_late 58 = .ok (.invokevirtual 164, 3) := by decide +kernel
theorem dX10_late_61 : decode cX10_late 61 = .ok (.iinc 3 (-1), 3) := by decide +kernel
theorem dX10_late_64 : decode cX10_late 64 = .ok (.goto (-24), 3) := by decide +kernel
theorem dX10_late_67 : decode cX10_late 67 = .ok (.aload_n 0, 1) := by decide +kernel
theorem dX10_late_68 : decode cX10_late 68 = .ok (.getfield 44, 3) := by decide +kernel
theorem dX10_late_71 : decode cX10_late 71 = .ok (.invokevirtual 232, 3) := by decide +kernel
theorem dX10_late_74 : decode cX10_late 74 = .ok (.ireturn, 1) := by decide +kernel
theorem dX10_rows_0 : decode cX10_rows 0 = .ok (.iload_n 1, 1) := by decide +kernel
theorem dX10_rows_1 : decode cX10_rows 1 = .ok (.iconst 1, 1) := by decide +kernel
theorem dX10_rows_2 : decode cX10_rows 2 = .ok (.sipush 200, 3) := by decide +kernel
theorem dX10_rows_5 : decode cX10_rows 5 = .ok (.invokestatic 99, 3) := by decide +kernel
theorem dX10_rows_8 : decode cX10_rows 8 = .ok (.ifCond .ne 6, 3) := by decide +kernel
theorem dX10_rows_11 : decode cX10_rows 11 = .ok (.bipush (-2), 2) := by decide +kernel
theorem dX10_rows_13 : decode cX10_rows 13 = .ok (.ireturn, 1) := by decide +kernel
theorem dX10_rows_14 : decode cX10_rows 14 = .ok (.iload_n 2, 1) := by decide +kernel
theorem dX10_rows_15 : decode cX10_rows 15 = .ok (.iconst 0, 1) := by decide +kernel
theorem dX10_rows_16 : decode cX10_rows 16 = .ok (.iload_n 1, 1) := by decide +kernel
theorem dX10_rows_17 : decode cX10_rows 17 = .ok (.iconst 1, 1) := by decide +kernel
theorem dX10_rows_18 : decode cX10_rows 18 = .ok (.isub, 1) := by decide +kernel
theorem dX10_rows_19 : decode cX10_rows 19 = .ok (.invokestatic 99, 3) := by decide +kernel
theorem dX10_rows_22 : decode cX10_rows 22 = .ok (.ifCond .ne 5, 3) := by decide +kernel
theorem dX10_rows_25 : decode cX10_rows 25 = .ok (.iconst (-1), 1) := by decide +kernel
theorem dX10_rows_26 : decode cX10_rows 26 = .ok (.ireturn, 1) := by decide +kernel
theorem dX10_rows_27 : decode cX10_rows 27 = .ok (.aload_n 0, 1) := by decide +kernel
theorem dX10_rows_28 : decode cX10_rows 28 = .ok (.getfield 91, 3) := by decide +kernel
theorem dX10_rows_31 : decode cX10_rows 31 = .ok (.iload_n 1, 1) := by decide +kernel
theorem dX10_rows_32 : decode cX10_rows 32 = .ok (.iload_n 2, 1) := by decide +kernel
theorem dX10_rows_33 : decode cX10_rows 33 = .ok (.invokevirtual 235, 3) := by decide +kernel
theorem dX10_rows_36 : decode cX10_rows 36 = .ok (.ireturn, 1) := by decide +kernel
theorem dX10_longer_0 : decode cX10_longer 0 = .ok (.iload_n 1, 1) := by decide +kernel
theorem dX10_longer_1 : decode cX10_longer 1 = .ok (.iconst 1, 1) := by decide +kernel
theorem dX10_longer_2 : decode cX10_longer 2 = .ok (.bipush 100, 2) := by decide +kernel
theorem dX10_longer_4 : decode cX10_longer 4 = .ok (.invokestatic 99, 3) := by decide +kernel
theorem dX10_longer_7 : decode cX10_longer 7 = .ok (.ifCond .ne 6, 3) := by decide +kernel
theorem dX10_longer_10 : decode cX10_longer 10 = .ok (.bipush (-2), 2) := by decide +kernel
theorem dX10_longer_12 : decode cX10_longer 12 = .ok (.ireturn, 1) := by decide +kernel
theorem dX10_longer_13 : decode cX10_longer 13 = .ok (.iconst 1, 1) := by decide +kernel
theorem dX10_longer_14 : decode cX10_longer 14 = .ok (.istore_n 2, 1) := by decide +kernel
theorem dX10_longer_15 : decode cX10_longer 15 = .ok (.iload_n 2, 1) := by decide +kernel
theorem dX10_longer_16 : decode cX10_longer 16 = .ok (.sipush 200, 3) := by decide +kernel
theorem dX10_longer_19 : decode cX10_longer 19 = .ok (.if_icmp .gt 24, 3) := by decide +kernel
theorem dX10_longer_22 : decode cX10_longer 22 = .ok (.aload_n 0, 1) := by decide +kernel
theorem dX10_longer_23 : decode cX10_longer 23 = .ok (.getfield 91, 3) := by decide +kernel
theorem dX10_longer_26 : decode cX10_longer 26 = .ok (.iload_n 2, 1) := by decide +kernel
theorem dX10_longer_27 : decode cX10_longer 27 = .ok (.iconst 0, 1) := by decide +kernel
theorem dX10_longer_28 : decode cX10_longer 28 = .ok (.invokevirtual 235, 3) := by decide +kernel
theorem dX10_longer_31 : decode cX10_longer 31 = .ok (.iload_n 1, 1) := by decide +kernel
theorem dX10_longer_32 : decode cX10_longer 32 = .ok (.if_icmp .lt 5, 3) := by decide +kernel
theorem dX10_longer_35 : decode cX10_longer 35 = .ok (.iload_n 2, 1) := by decide +kernel
theorem dX10_longer_36 : decode cX10_longer 36 = .ok (.ireturn, 1) := by decide +kernel
theorem dX10_longer_37 : decode cX10_longer 37 = .ok (.iinc 2 1, 3) := by decide +kernel
theorem dX10_longer_40 : decode cX10_longer 40 = .ok (.goto (-25), 3) := by decide +kernel
theorem dX10_longer_43 : decode cX10_longer 43 = .ok (.bipush (-6), 2) := by decide +kernel
theorem dX10_longer_45 : decode cX10_longer 45 = .ok (.ireturn, 1) := by decide +kernel
theorem dX10_arms_0 : decode cX10_arms 0 = .ok (.iload_n 1, 1) := by decide +kernel
theorem dX10_arms_1 : decode cX10_arms 1 = .ok (.invokestatic 158, 3) := by decide +kernel
theorem dX10_arms_4 : decode cX10_arms 4 = .ok (.ifCond .eq 21, 3) := by decide +kernel
theorem dX10_arms_7 : decode cX10_arms 7 = .ok (.iload_n 2, 1) := by decide +kernel
theorem dX10_arms_8 : decode cX10_arms 8 = .ok (.iconst 0, 1) := by decide +kernel
theorem dX10_arms_9 : decode cX10_arms 9 = .ok (.iconst 3, 1) := by decide +kernel
theorem dX10_arms_10 : decode cX10_arms 10 = .ok (.invokestatic 99, 3) := by decide +kernel
theorem dX10_arms_13 : decode cX10_arms 13 = .ok (.ifCond .eq 12, 3) := by decide +kernel
theorem dX10_arms_16 : decode cX10_arms 16 = .ok (.iload_n 3, 1) := by decide +kernel
theorem dX10_arms_17 : decode cX10_arms 17 = .ok (.iconst 0, 1) := by decide +kernel
theorem dX10_arms_18 : decode cX10_arms 18 = .ok (.iconst 1, 1) := by decide +kernel
theorem dX10_arms_19 : decode cX10_arms 19 = .ok (.invokestatic 99, 3) := by decide +kernel
theorem dX10_arms_22 : decode cX10_arms 22 = .ok (.ifCond .ne 6, 3) := by decide +kernel
theorem dX10_arms_25 : decode cX10_arms 25 = .ok (.bipush (-2), 2) := by decide +kernel
theorem dX10_arms_27 : decode cX10_arms 27 = .ok (.ireturn, 1) := by decide +kernel
theorem dX10_arms_28 : decode cX10_arms 28 = .ok (.aload_n 0, 1) := by decide +kernel
theorem dX10_arms_29 : decode cX10_arms 29 = .ok (.iload_n 1, 1) := by decide +kernel
theorem dX10_arms_30 : decode cX10_arms 30 = .ok (.iload_n 2, 1) := by decide +kernel
theorem dX10_arms_31 : decode cX10_arms 31 = .ok (.invokevirtual 238, 3) := by decide +kernel
theorem dX10_arms_34 : decode cX10_arms 34 = .ok (.istore 4, 2) := by decide +kernel
theorem dX10_arms_36 : decode cX10_arms 36 = .ok (.iload_n 3, 1) := by decide +kernel
theorem dX10_arms_37 : decode cX10_arms 37 = .ok (.ifCond .ne 8, 3) := by decide +kernel
theorem dX10_arms_40 : decode cX10_arms 40 = .ok (.iload 4, 2) := by decide +kernel
theorem dX10_arms_42 : decode cX10_arms 42 = .ok (.goto 10, 3) := by decide +kernel
theorem dX10_arms_45 : decode cX10_arms 45 = .ok (.aload_n 0, 1) := by decide +kernel
theorem dX10_arms_46 : decode cX10_arms 46 = .ok (.iload 4, 2) := by decide +kernel
theorem dX10_arms_48 : decode cX10_arms 48 = .ok (.iload_n 1, 1) := by decide +kernel
theorem dX10_arms_49 : decode cX10_arms 49 = .ok (.invokevirtual 241, 3) := by decide +kernel
theorem dX10_arms_52 : decode cX10_arms 52 = .ok (.ireturn, 1) := by decide +kernel
theorem dX10_rests_0 : decode cX10_rests 0 = .ok (.iload_n 1, 1) := by decide +kernel
theorem dX10_rests_1 : decode cX10_rests 1 = .ok (.iconst 0, 1) := by decide +kernel
theorem dX10_rests_2 : decode cX10_rests 2 = .ok (.iconst 3, 1) := by decide +kernel
theorem dX10_rests_3 : decode cX10_rests 3 = .ok (.invokestatic 99, 3) := by decide +kernel
theorem dX10_rests_6 : decode cX10_rests 6 = .ok (.ifCond .ne 6, 3) := by decide +kernel
theorem dX10_rests_9 : decode cX10_rests 9 = .ok (.bipush (-2), 2) := by decide +kernel
theorem dX10_rests_11 : decode cX10_rests 11 = .ok (.ireturn, 1) := by decide +kernel
theorem dX10_rests_12 : decode cX10_rests 12 = .ok (.aload_n 0, 1) := by decide +kernel
theorem dX10_rests_13 : decode cX10_rests 13 = .ok (.bipush 6, 2) := by decide +kernel
theorem dX10_rests_15 : decode cX10_rests 15 = .ok (.iload_n 1, 1) := by decide +kernel
theorem dX10_rests_16 : decode cX10_rests 16 = .ok (.invokevirtual 238, 3) := by decide +kernel
theorem dX10_rests_19 : decode cX10_rests 19 = .ok (.ireturn, 1) := by decide +kernel
theorem dX10_minutes_0 : decode cX10_minutes 0 = .ok (.iload 4, 2) := by decide +kernel
theorem dX10_minutes_2 : decode cX10_minutes 2 = .ok (.iconst 0, 1) := by decide +kernel
theorem dX10_minutes_3 : decode cX10_minutes 3 = .ok (.bipush 12, 2) := by decide +kernel
theorem dX10_minutes_5 : decode cX10_minutes 5 = .ok (.invokestatic 99, 3) := by decide +kernel
theorem dX10_minutes_8 : decode cX10_minutes 8 = .ok (.ifCond .ne 7, 3) := by decide +kernel
theorem dX10_minutes_11 : decode cX10_minutes 11 = .ok (.ldc2_w 188, 3) := by decide +kernel
theorem dX10_minutes_14 : decode cX10_minutes 14 = .ok (.lreturn, 1) := by decide +kernel
theorem dX10_minutes_15 : decode cX10_minutes 15 = .ok (.aload_n 0, 1) := by decide +kernel
theorem dX10_minutes_16 : decode cX10_minutes 16 = .ok (.iload_n 1, 1) := by decide +kernel
theorem dX10_minutes_17 : decode cX10_minutes 17 = .ok (.iload_n 2, 1) := by decide +kernel
theorem dX10_minutes_18 : decode cX10_minutes 18 = .ok (.iload_n 3, 1) := by decide +kernel
theorem dX10_minutes_19 : decode cX10_minutes 19 = .ok (.iload 5, 2) := by decide +kernel
theorem dX10_minutes_21 : decode cX10_minutes 21 = .ok (.invokevirtual 244, 3) := by decide +kernel
theorem dX10_minutes_24 : decode cX10_minutes 24 = .ok (.istore 6, 2) := by decide +kernel
theorem dX10_minutes_26 : decode cX10_minutes 26 = .ok (.iload 6, 2) := by decide +kernel
theorem dX10_minutes_28 : decode cX10_minutes 28 = .ok (.ifCond .eq 13, 3) := by decide +kernel
theorem dX10_minutes_31 : decode cX10_minutes 31 = .ok (.ldc2_w 248, 3) := by decide +kernel
theorem dX10_minutes_34 : decode cX10_minutes 34 = .ok (.iload 6, 2) := by decide +kernel
theorem dX10_minutes_36 : decode cX10_minutes 36 = .ok (.i2l, 1) := by decide +kernel
theorem dX10_minutes_37 : decode cX10_minutes 37 = .ok (.ladd, 1) := by decide +kernel
theorem dX10_minutes_38 : decode cX10_minutes 38 = .ok (.goto 25, 3) := by decide +kernel
theorem dX10_minutes_41 : decode cX10_minutes 41 = .ok (.aload_n 0, 1) := by decide +kernel
theorem dX10_minutes_42 : decode cX10_minutes 42 = .ok (.getfield 84, 3) := by decide +kernel
theorem dX10_minutes_45 : decode cX10_minutes 45 = .ok (.getfield 250, 3) := by decide +kernel
theorem dX10_minutes_48 : decode cX10_minutes 48 = .ok (.iload 4, 2) := by decide +kernel
theorem dX10_minutes_50 : decode cX10_minutes 50 = .ok (.laload, 1) := by decide +kernel
theorem dX10_minutes_51 : decode cX10_minutes 51 = .ok (.aload_n 0, 1) := by decide +kernel
theorem dX10_minutes_52 : decode cX10_minutes 52 = .ok (.getfield 84, 3) := by decide +kernel
theorem dX10_minutes_55 : decode cX10_minutes 55 = .ok (.getfield 253, 3) := by decide +kernel
theorem dX10_minutes_58 : decode cX10_minutes 58 = .ok (.iload 5, 2) := by decide +kernel
theorem dX10_minutes_60 : decode cX10_minutes 60 = .ok (.invokestatic 196, 3) := by decide +kernel
theorem dX10_minutes_63 : decode cX10_minutes 63 = .ok (.lreturn, 1) := by decide +kernel
theorem dX10_away_0 : decode cX10_away 0 = .ok (.aload_n 0, 1) := by decide +kernel
theorem dX10_away_1 : decode cX10_away 1 = .ok (.iload_n 1, 1) := by decide +kernel
theorem dX10_away_2 : decode cX10_away 2 = .ok (.iload_n 2, 1) := by decide +kernel
theorem dX10_away_3 : decode cX10_away 3 = .ok (.iload_n 3, 1) := by decide +kernel
theorem dX10_away_4 : decode cX10_away 4 = .ok (.iload 4, 2) := by decide +kernel
theorem dX10_away_6 : decode cX10_away 6 = .ok (.invokevirtual 244, 3) := by decide +kernel
theorem dX10_away_9 : decode cX10_away 9 = .ok (.istore 5, 2) := by decide +kernel
theorem dX10_away_11 : decode cX10_away 11 = .ok (.iload 5, 2) := by decide +kernel
theorem dX10_away_13 : decode cX10_away 13 = .ok (.ifCond .eq 13, 3) := by decide +kernel
theorem dX10_away_16 : decode cX10_away 16 = .ok (.ldc2_w 248, 3) := by decide +kernel
theorem dX10_away_19 : decode cX10_away 19 = .ok (.iload 5, 2) := by decide +kernel
theorem dX10_away_21 : decode cX10_away 21 = .ok (.i2l, 1) := by decide +kernel
theorem dX10_away_22 : decode cX10_away 22 = .ok (.ladd, 1) := by decide +kernel
theorem dX10_away_23 : decode cX10_away 23 = .ok (.goto 22, 3) := by decide +kernel
theorem dX10_away_26 : decode cX10_away 26 = .ok (.aload_n 0, 1) := by decide +kernel
theorem dX10_away_27 : decode cX10_away 27 = .ok (.getfield 84, 3) := by decide +kernel
theorem dX10_away_30 : decode cX10_away 30 = .ok (.getfield 257, 3) := by decide +kernel
theorem dX10_away_33 : decode cX10_away 33 = .ok (.aload_n 0, 1) := by decide +kernel
theorem dX10_away_34 : decode cX10_away 34 = .ok (.getfield 84, 3) := by decide +kernel
theorem dX10_away_37 : decode cX10_away 37 = .ok (.getfield 253, 3) := by decide +kernel
theorem dX10_away_40 : decode cX10_away 40 = .ok (.iload 4, 2) := by decide +kernel
theorem dX10_away_42 : decode cX10_away 42 = .ok (.invokestatic 196, 3) := by decide +kernel
theorem dX10_away_45 : decode cX10_away 45 = .ok (.lreturn, 1) := by decide +kernel
theorem dX10_come_0 : decode cX10_come 0 = .ok (.iload_n 1, 1) := by decide +kernel
theorem dX10_come_1 : decode cX10_come 1 = .ok (.invokestatic 158, 3) := by decide +kernel
theorem dX10_come_4 : decode cX10_come 4 = .ok (.ifCond .ne 6, 3) := by decide +kernel
theorem dX10_come_7 : decode cX10_come 7 = .ok (.bipush (-2), 2) := by decide +kernel
theorem dX10_come_9 : decode cX10_come 9 = .ok (.ireturn, 1) := by decide +kernel
theorem dX10_come_10 : decode cX10_come 10 = .ok (.aload_n 0, 1) := by decide +kernel
theorem dX10_come_11 : decode cX10_come 11 = .ok (.getfield 19, 3) := by decide +kernel
theorem dX10_come_14 : decode cX10_come 14 = .ok (.getfield 260, 3) := by decide +kernel
theorem dX10_come_17 : decode cX10_come 17 = .ok (.bipush 12, 2) := by decide +kernel
theorem dX10_come_19 : decode cX10_come 19 = .ok (.if_icmp .lt 6, 3) := by decide +kernel
theorem dX10_come_22 : decode cX10_come 22 = .ok (.bipush (-4), 2) := by decide +kernel
theorem dX10_come_24 : decode cX10_come 24 = .ok (.ireturn, 1) := by decide +kernel
theorem dX10_come_25 : decode cX10_come 25 = .ok (.aload_n 0, 1) := by decide +kernel
theorem dX10_come_26 : decode cX10_come 26 = .ok (.getfield 19, 3) := by decide +kernel
theorem dX10_come_29 : decode cX10_come 29 = .ok (.getfield 263, 3) := by decide +kernel
theorem dX10_come_32 : decode cX10_come 32 = .ok (.aload_n 0, 1) := by decide +kernel
theorem dX10_come_33 : decode cX10_come 33 = .ok (.getfield 19, 3) := by decide +kernel
theorem dX10_come_36 : decode cX10_come 36 = .ok (.getfield 260, 3) := by decide +kernel
theorem dX10_come_39 : decode cX10_come 39 = .ok (.iload_n 1, 1) := by decide +kernel
theorem dX10_come_40 : decode cX10_come 40 = .ok (.iastore, 1) := by decide +kernel
theorem dX10_come_41 : decode cX10_come 41 = .ok (.aload_n 0, 1) := by decide +kernel
theorem dX10_come_42 : decode cX10_come 42 = .ok (.getfield 19, 3) := by decide +kernel
theorem dX10_come_45 : decode cX10_come 45 = .ok (.dup, 1) := by decide +kernel
theorem dX10_come_46 : decode cX10_come 46 = .ok (.getfield 260, 3) := by decide +kernel
theorem dX10_come_49 : decode cX10_come 49 = .ok (.iconst 1, 1) := by decide +kernel
theorem dX10_come_50 : decode cX10_come 50 = .ok (.iadd, 1) := by decide +kernel
theorem dX10_come_51 : decode cX10_come 51 = .ok (.putfield 260, 3) := by decide +kernel
theorem dX10_come_54 : decode cX10_come 54 = .ok (.aload_n 0, 1) := by decide +kernel
theorem dX10_come_55 : decode cX10_come 55 = .ok (.getfield 19, 3) := by decide +kernel
theorem dX10_come_58 : decode cX10_come 58 = .ok (.getfield 260, 3) := by decide +kernel
theorem dX10_come_61 : decode cX10_come 61 = .ok (.iconst 1, 1) := by decide +kernel
theorem dX10_come_62 : decode cX10_come 62 = .ok (.isub, 1) := by decide +kernel
theorem dX10_come_63 : decode cX10_come 63 = .ok (.ireturn, 1) := by decide +kernel
theorem dX10_forget_0 : decode cX10_forget 0 = .ok (.aload_n 0, 1) := by decide +kernel
theorem dX10_forget_1 : decode cX10_forget 1 = .ok (.getfield 19, 3) := by decide +kernel
theorem dX10_forget_4 : decode cX10_forget 4 = .ok (.getfield 260, 3) := by decide +kernel
theorem dX10_forget_7 : decode cX10_forget 7 = .ok (.istore_n 1, 1) := by decide +kernel
theorem dX10_forget_8 : decode cX10_forget 8 = .ok (.aload_n 0, 1) := by decide +kernel
theorem dX10_forget_9 : decode cX10_forget 9 = .ok (.getfield 19, 3) := by decide +kernel
theorem dX10_forget_12 : decode cX10_forget 12 = .ok (.iconst 0, 1) := by decide +kernel
theorem dX10_forget_13 : decode cX10_forget 13 = .ok (.putfield 260, 3) := by decide +kernel
theorem dX10_forget_16 : decode cX10_forget 16 = .ok (.iload_n 1, 1) := by decide +kernel
theorem dX10_forget_17 : decode cX10_forget 17 = .ok (.ireturn, 1) := by decide +kernel
theorem dX10_sits_0 : decode cX10_sits 0 = .ok (.iload_n 1, 1) := by decide +kernel
theorem dX10_sits_1 : decode cX10_sits 1 = .ok (.iconst 0, 1) := by decide +kernel
theorem dX10_sits_2 : decode cX10_sits 2 = .ok (.aload_n 0, 1) := by decide +kernel
theorem dX10_sits_3 : decode cX10_sits 3 = .ok (.getfield 19, 3) := by decide +kernel
theorem dX10_sits_6 : decode cX10_sits 6 = .ok (.getfield 260, 3) := by decide +kernel
theorem dX10_sits_9 : decode cX10_sits 9 = .ok (.iconst 1, 1) := by decide +kernel
theorem dX10_sits_10 : decode cX10_sits 10 = .ok (.isub, 1) := by decide +kernel
theorem dX10_sits_11 : decode cX10_sits 11 = .ok (.invokestatic 99, 3) := by decide +kernel
theorem dX10_sits_14 : decode cX10_sits 14 = .ok (.ifCond .ne 5, 3) := by decide +kernel
theorem dX10_sits_17 : decode cX10_sits 17 = .ok (.iconst (-1), 1) := by decide +kernel
theorem dX10_sits_18 : decode cX10_sits 18 = .ok (.ireturn, 1) := by decide +kernel
theorem dX10_sits_19 : decode cX10_sits 19 = .ok (.aload_n 0, 1) := by decide +kernel
theorem dX10_sits_20 : decode cX10_sits 20 = .ok (.getfield 44, 3) := by decide +kernel
theorem dX10_sits_23 : decode cX10_sits 23 = .ok (.invokevirtual 228, 3) := by decide +kernel
theorem dX10_sits_26 : decode cX10_sits 26 = .ok (.bipush (-6), 2) := by decide +kernel
theorem dX10_sits_28 : decode cX10_sits 28 = .ok (.istore_n 2, 1) := by decide +kernel
theorem dX10_sits_29 : decode cX10_sits 29 = .ok (.iconst 0, 1) := by decide +kernel
theorem dX10_sits_30 : decode cX10_sits 30 = .ok (.istore_n 3, 1) := by decide +kernel
theorem dX10_sits_31 : decode cX10_sits 31 = .ok (.iload_n 3, 1) := by decide +kernel
theorem dX10_sits_32 : decode cX10_sits 32 = .ok (.iload_n 1, 1) := by decide +kernel
theorem dX10_sits_33 : decode cX10_sits 33 = .ok (.if_icmp .gt 40, 3) := by decide +kernel
theorem dX10_sits_36 : decode cX10_sits 36 = .ok (.aload_n 0, 1) := by decide +kernel
theorem dX10_sits_37 : decode cX10_sits 37 = .ok (.getfield 44, 3) := by decide +kernel
theorem dX10_sits_40 : decode cX10_sits 40 = .ok (.aload_n 0, 1) := by decide +kernel
theorem dX10_sits_41 : decode cX10_sits 41 = .ok (.getfield 19, 3) := by decide +kernel
theorem dX10_sits_44 : decode cX10_sits 44 = .ok (.getfield 263, 3) := by decide +kernel
theorem dX10_sits_47 : decode cX10_sits 47 = .ok (.iload_n 3, 1) := by decide +kernel
theorem dX10_sits_48 : decode cX10_sits 48 = .ok (.iaload, 1) := by decide +kernel
theorem dX10_sits_49 : decode cX10_sits 49 = .ok (.invokevirtual 161, 3) := by decide +kernel
theorem dX10_sits_52 : decode cX10_sits 52 = .ok (.istore_n 2, 1) := by decide +kernel
theorem dX10_sits_53 : decode cX10_sits 53 = .ok (.iload_n 2, 1) := by decide +kernel
theorem dX10_sits_54 : decode cX10_sits 54 = .ok (.bipush (-6), 2) := by decide +kernel
theorem dX10_sits_56 : decode cX10_sits 56 = .ok (.if_icmp .eq 11, 3) := by decide +kernel
theorem dX10_sits_59 : decode cX10_sits 59 = .ok (.aload_n 0, 1) := by decide +kernel
theorem dX10_sits_60 : decode cX10_sits 60 = .ok (.getfield 44, 3) := by decide +kernel
theorem dX10_sits_63 : decode cX10_sits 63 = .ok (.iload_n 2, 1) := by decide +kernel
theorem dX10_sits_64 : decode cX10_sits 64 = .ok (.invokevirtual 266, 3) := by decide +kernel
theorem dX10_sits_67 : decode cX10_sits 67 = .ok (.iinc 3 1, 3) := by decide +kernel
theorem dX10_sits_70 : decode cX10_sits 70 = .ok (.goto (-39), 3) := by decide +kernel
theorem dX10_sits_73 : decode cX10_sits 73 = .ok (.iload_n 2, 1) := by decide +kernel
theorem dX10_sits_74 : decode cX10_sits 74 = .ok (.ireturn, 1) := by decide +kernel
theorem dX10_begin_0 : decode cX10_begin 0 = .ok (.aload_n 0, 1) := by decide +kernel
theorem dX10_begin_1 : decode cX10_begin 1 = .ok (.getfield 19, 3) := by decide +kernel
theorem dX10_begin_4 : decode cX10_begin 4 = .ok (.getfield 135, 3) := by decide +kernel
theorem dX10_begin_7 : decode cX10_begin 7 = .ok (.bipush 8, 2) := by decide +kernel
theorem dX10_begin_9 : decode cX10_begin 9 = .ok (.if_icmp .lt 6, 3) := by decide +kernel
theorem dX10_begin_12 : decode cX10_begin 12 = .ok (.bipush (-4), 2) := by decide +kernel
theorem dX10_begin_14 : decode cX10_begin 14 = .ok (.ireturn, 1) := by decide +kernel
theorem dX10_begin_15 : decode cX10_begin 15 = .ok (.aload_n 0, 1) := by decide +kernel
theorem dX10_begin_16 : decode cX10_begin 16 = .ok (.getfield 19, 3) := by decide +kernel
theorem dX10_begin_19 : decode cX10_begin 19 = .ok (.getfield 269, 3) := by decide +kernel
theorem dX10_begin_22 : decode cX10_begin 22 = .ok (.aload_n 0, 1) := by decide +kernel
theorem dX10_begin_23 : decode cX10_begin 23 = .ok (.getfield 19, 3) := by decide +kernel
theorem dX10_begin_26 : decode cX10_begin 26 = .ok (.getfield 135, 3) := by decide +kernel
theorem dX10_begin_29 : decode cX10_begin 29 = .ok (.iconst 0, 1) := by decide +kernel
theorem dX10_begin_30 : decode cX10_begin 30 = .ok (.iastore, 1) := by decide +kernel
theorem dX10_begin_31 : decode cX10_begin 31 = .ok (.aload_n 0, 1) := by decide +kernel
theorem dX10_begin_32 : decode cX10_begin 32 = .ok (.getfield 19, 3) := by decide +kernel
theorem dX10_begin_35 : decode cX10_begin 35 = .ok (.dup, 1) := by decide +kernel
theorem dX10_begin_36 : decode cX10_begin 36 = .ok (.getfield 135, 3) := by decide +kernel
theorem dX10_begin_39 : decode cX10_begin 39 = .ok (.iconst 1, 1) := by decide +kernel
theorem dX10_begin_40 : decode cX10_begin 40 = .ok (.iadd, 1) := by decide +kernel
theorem dX10_begin_41 : decode cX10_begin 41 = .ok (.putfield 135, 3) := by decide +kernel
theorem dX10_begin_44 : decode cX10_begin 44 = .ok (.aload_n 0, 1) := by decide +kernel
theorem dX10_begin_45 : decode cX10_begin 45 = .ok (.getfield 19, 3) := by decide +kernel
theorem dX10_begin_48 : decode cX10_begin 48 = .ok (.getfield 135, 3) := by decide +kernel
theorem dX10_begin_51 : decode cX10_begin 51 = .ok (.iconst 1, 1) := by decide +kernel
theorem dX10_begin_52 : decode cX10_begin 52 = .ok (.isub, 1) := by decide +kernel
theorem dX10_begin_53 : decode cX10_begin 53 = .ok (.ireturn, 1) := by decide +kernel
theorem dX10_see_0 : decode cX10_see 0 = .ok (.aload_n 0, 1) := by decide +kernel
theorem dX10_see_1 : decode cX10_see 1 = .ok (.iload_n 1, 1) := by decide +kernel
theorem dX10_see_2 : decode cX10_see 2 = .ok (.invokevirtual 141, 3) := by decide +kernel
theorem dX10_see_5 : decode cX10_see 5 = .ok (.ifCond .ne 5, 3) := by decide +kernel
theorem dX10_see_8 : decode cX10_see 8 = .ok (.iconst (-1), 1) := by decide +kernel
theorem dX10_see_9 : decode cX10_see 9 = .ok (.ireturn, 1) := by decide +kernel
theorem dX10_see_10 : decode cX10_see 10 = .ok (.aload_n 0, 1) := by decide +kernel
theorem dX10_see_11 : decode cX10_see 11 = .ok (.getfield 19, 3) := by decide +kernel
theorem dX10_see_14 : decode cX10_see 14 = .ok (.getfield 135, 3) := by decide +kernel
theorem dX10_see_17 : decode cX10_see 17 = .ok (.ifCond .ne 6, 3) := by decide +kernel
theorem dX10_see_20 : decode cX10_see 20 = .ok (.bipush (-3), 2) := by decide +kernel
theorem dX10_see_22 : decode cX10_see 22 = .ok (.ireturn, 1) := by decide +kernel
theorem dX10_see_23 : decode cX10_see 23 = .ok (.aload_n 0, 1) := by decide +kernel
theorem dX10_see_24 : decode cX10_see 24 = .ok (.getfield 19, 3) := by decide +kernel
theorem dX10_see_27 : decode cX10_see 27 = .ok (.getfield 135, 3) := by decide +kernel
theorem dX10_see_30 : decode cX10_see 30 = .ok (.iconst 1, 1) := by decide +kernel
theorem dX10_see_31 : decode cX10_see 31 = .ok (.isub, 1) := by decide +kernel
theorem dX10_see_32 : decode cX10_see 32 = .ok (.istore_n 2, 1) := by decide +kernel
theorem dX10_see_33 : decode cX10_see 33 = .ok (.aload_n 0, 1) := by decide +kernel
theorem dX10_see_34 : decode cX10_see 34 = .ok (.iload_n 2, 1) := by decide +kernel
theorem dX10_see_35 : decode cX10_see 35 = .ok (.invokevirtual 272, 3) := by decide +kernel
theorem dX10_see_38 : decode cX10_see 38 = .ok (.aload_n 0, 1) := by decide +kernel
theorem dX10_see_39 : decode cX10_see 39 = .ok (.getfield 44, 3) := by decide +kernel
theorem dX10_see_42 : decode cX10_see 42 = .ok (.iload_n 1, 1) := by decide +kernel
theorem dX10_see_43 : decode cX10_see 43 = .ok (.invokevirtual 275, 3) := by decide +kernel
theorem dX10_see_46 : decode cX10_see 46 = .ok (.ifCond .ne 6, 3) := by decide +kernel
theorem dX10_see_49 : decode cX10_see 49 = .ok (.bipush (-5), 2) := by decide +kernel
theorem dX10_see_51 : decode cX10_see 51 = .ok (.ireturn, 1) := by decide +kernel
theorem dX10_see_52 : decode cX10_see 52 = .ok (.aload_n 0, 1) := by decide +kernel
theorem dX10_see_53 : decode cX10_see 53 = .ok (.getfield 19, 3) := by decide +kernel
theorem dX10_see_56 : decode cX10_see 56 = .ok (.iload_n 2, 1) := by decide +kernel
theorem dX10_see_57 : decode cX10_see 57 = .ok (.iload_n 1, 1) := by decide +kernel
theorem dX10_see_58 : decode cX10_see 58 = .ok (.invokevirtual 278, 3) := by decide +kernel
theorem dX10_see_61 : decode cX10_see 61 = .ok (.ifCond .eq 15, 3) := by decide +kernel
theorem dX10_see_64 : decode cX10_see 64 = .ok (.aload_n 0, 1) := by decide +kernel
theorem dX10_see_65 : decode cX10_see 65 = .ok (.getfield 19, 3) := by decide +kernel
theorem dX10_see_68 : decode cX10_see 68 = .ok (.getfield 269, 3) := by decide +kernel
theorem dX10_see_71 : decode cX10_see 71 = .ok (.iload_n 2, 1) := by decide +kernel
theorem dX10_see_72 : decode cX10_see 72 = .ok (.iaload, 1) := by decide +kernel
theorem dX10_see_73 : decode cX10_see 73 = .ok (.goto 5, 3) := by decide +kernel
theorem dX10_see_76 : decode cX10_see 76 = .ok (.bipush (-4), 2) := by decide +kernel
theorem dX10_see_78 : decode cX10_see 78 = .ok (.ireturn, 1) := by decide +kernel
theorem dX10_fits_0 : decode cX10_fits 0 = .ok (.iconst 0, 1) := by decide +kernel
theorem dX10_fits_1 : decode cX10_fits 1 = .ok (.istore_n 1, 1) := by decide +kernel
theorem dX10_fits_2 : decode cX10_fits 2 = .ok (.iconst 0, 1) := by decide +kernel
theorem dX10_fits_3 : decode cX10_fits 3 = .ok (.istore_n 2, 1) := by decide +kernel
theorem dX10_fits_4 : decode cX10_fits 4 = .ok (.iload_n 2, 1) := by decide +kernel
theorem dX10_fits_5 : decode cX10_fits 5 = .ok (.bipush 6, 2) := by decide +kernel
theorem dX10_fits_7 : decode cX10_fits 7 = .ok (.if_icmp .ge 25, 3) := by decide +kernel
theorem dX10_fits_10 : decode cX10_fits 10 = .ok (.aload_n 0, 1) := by decide +kernel
theorem dX10_fits_11 : decode cX10_fits 11 = .ok (.iload_n 2, 1) := by decide +kernel
theorem dX10_fits_12 : decode cX10_fits 12 = .ok (.invokevirtual 282, 3) := by decide +kernel
theorem dX10_fits_15 : decode cX10_fits 15 = .ok (.bipush (-6), 2) := by decide +kernel
theorem dX10_fits_17 : decode cX10_fits 17 = .ok (.if_icmp .ne 9, 3) := by decide +kernel
theorem dX10_fits_20 : decode cX10_fits 20 = .ok (.iload_n 1, 1) := by decide +kernel
theorem dX10_fits_21 : decode cX10_fits 21 = .ok (.iconst 1, 1) := by decide +kernel
theorem dX10_fits_22 : decode cX10_fits 22 = .ok (.iload_n 2, 1) := by decide +kernel
theorem dX10_fits_23 : decode cX10_fits 23 = .ok (.ishl, 1) := by decide +kernel
theorem dX10_fits_24 : decode cX10_fits 24 = .ok (.ior, 1) := by decide +kernel
theorem dX10_fits_25 : decode cX10_fits 25 = .ok (.istore_n 1, 1) := by decide +kernel
theorem dX10_fits_26 : decode cX10_fits 26 = .ok (.iinc 2 1, 3) := by decide +kernel
theorem dX10_fits_29 : decode cX10_fits 29 = .ok (.goto (-25), 3) := by decide +kernel
theorem dX10_fits_32 : decode cX10_fits 32 = .ok (.iload_n 1, 1) := by decide +kernel
theorem dX10_fits_33 : decode cX10_fits 33 = .ok (.ireturn, 1) := by decide +kernel
theorem dX10_judge_0 : decode cX10_judge 0 = .ok (.iload_n 1, 1) := by decide +kernel
theorem dX10_judge_1 : decode cX10_judge 1 = .ok (.invokestatic 158, 3) := by decide +kernel
theorem dX10_judge_4 : decode cX10_judge 4 = .ok (.ifCond .eq 11, 3) := by decide +kernel
theorem dX10_judge_7 : decode cX10_judge 7 = .ok (.aload_n 0, 1) := by decide +kernel
theorem dX10_judge_8 : decode cX10_judge 8 = .ok (.iload_n 1, 1) := by decide +kernel
theorem dX10_judge_9 : decode cX10_judge 9 = .ok (.invokevirtual 282, 3) := by decide +kernel
theorem dX10_judge_12 : decode cX10_judge 12 = .ok (.goto 5, 3) := by decide +kernel
theorem dX10_judge_15 : decode cX10_judge 15 = .ok (.bipush (-2), 2) := by decide +kernel
theorem dX10_judge_17 : decode cX10_judge 17 = .ok (.ireturn, 1) := by decide +kernel
theorem dX10_image_0 : decode cX10_image 0 = .ok (.iload_n 1, 1) := by decide +kernel
theorem dX10_image_1 : decode cX10_image 1 = .ok (.iconst 0, 1) := by decide +kernel
theorem dX10_image_2 : decode cX10_image 2 = .ok (.iconst 1, 1) := by decide +kernel
theorem dX10_image_3 : decode cX10_image 3 = .ok (.invokestatic 99, 3) := by decide +kernel
theorem dX10_image_6 : decode cX10_image 6 = .ok (.ifCond .ne 6, 3) := by decide +kernel
theorem dX10_image_9 : decode cX10_image 9 = .ok (.bipush (-2), 2) := by decide +kernel
theorem dX10_image_11 : decode cX10_image 11 = .ok (.ireturn, 1) := by decide +kernel
theorem dX10_image_12 : decode cX10_image 12 = .ok (.aload_n 0, 1) := by decide +kernel
theorem dX10_image_13 : decode cX10_image 13 = .ok (.getfield 23, 3) := by decide +kernel
theorem dX10_image_16 : decode cX10_image 16 = .ok (.iload_n 1, 1) := by decide +kernel
theorem dX10_image_17 : decode cX10_image 17 = .ok (.aaload, 1) := by decide +kernel
theorem dX10_image_18 : decode cX10_image 18 = .ok (.ifnonnull 16, 3) := by decide +kernel
theorem dX10_image_21 : decode cX10_image 21 = .ok (.aload_n 0, 1) := by decide +kernel
theorem dX10_image_22 : decode cX10_image 22 = .ok (.getfield 23, 3) := by decide +kernel
theorem dX10_image_25 : decode cX10_image 25 = .ok (.iload_n 1, 1) := by decide +kernel
theorem dX10_image_26 : decode cX10_image 26 = .ok (.new 16, 3) := by decide +kernel
theorem dX10_image_29 : decode cX10_image 29 = .ok (.dup, 1) := by decide +kernel
theorem dX10_image_30 : decode cX10_image 30 = .ok (.invokespecial 18, 3) := by decide +kernel
theorem dX10_image_33 : decode cX10_image 33 = .ok (.aastore, 1) := by decide +kernel
theorem dX10_image_34 : decode cX10_image 34 = .ok (.aload_n 0, 1) := by decide +kernel
theorem dX10_image_35 : decode cX10_image 35 = .ok (.getfield 23, 3) := by decide +kernel
theorem dX10_image_38 : decode cX10_image 38 = .ok (.iload_n 1, 1) := by decide +kernel
theorem dX10_image_39 : decode cX10_image 39 = .ok (.aaload, 1) := by decide +kernel
theorem dX10_image_40 : decode cX10_image 40 = .ok (.aload_n 0, 1) := by decide +kernel
theorem dX10_image_41 : decode cX10_image 41 = .ok (.getfield 19, 3) := by decide +kernel
theorem dX10_image_44 : decode cX10_image 44 = .ok (.invokevirtual 285, 3) := by decide +kernel
theorem dX10_image_47 : decode cX10_image 47 = .ok (.iconst 1, 1) := by decide +kernel
theorem dX10_image_48 : decode cX10_image 48 = .ok (.ireturn, 1) := by decide +kernel
theorem dX10_restore_0 : decode cX10_restore 0 = .ok (.iload_n 1, 1) := by decide +kernel
theorem dX10_restore_1 : decode cX10_restore 1 = .ok (.iconst 0, 1) := by decide +kernel
theorem dX10_restore_2 : decode cX10_restore 2 = .ok (.iconst 1, 1) := by decide +kernel
theorem dX10_restore_3 : decode cX10_restore 3 = .ok (.invokestatic 99, 3) := by decide +kernel
theorem dX10_restore_6 : decode cX10_restore 6 = .ok (.ifCond .ne 6, 3) := by decide +kernel
theorem dX10_restore_9 : decode cX10_restore 9 = .ok (.bipush (-2), 2) := by decide +kernel
theorem dX10_restore_11 : decode cX10_restore 11 = .ok (.ireturn, 1) := by decide +kernel
theorem dX10_restore_12 : decode cX10_restore 12 = .ok (.aload_n 0, 1) := by decide +kernel
theorem dX10_restore_13 : decode cX10_restore 13 = .ok (.getfield 23, 3) := by decide +kernel
theorem dX10_restore_16 : decode cX10_restore 16 = .ok (.iload_n 1, 1) := by decide +kernel
theorem dX10_restore_17 : decode cX10_restore 17 = .ok (.aaload, 1) := by decide +kernel
theorem dX10_restore_18 : decode cX10_restore 18 = .ok (.ifnonnull 6, 3) := by decide +kernel
theorem dX10_restore_21 : decode cX10_restore 21 = .ok (.bipush (-3), 2) := by decide +kernel
theorem dX10_restore_23 : decode cX10_restore 23 = .ok (.ireturn, 1) := by decide +kernel
theorem dX10_restore_24 : decode cX10_restore 24 = .ok (.aload_n 0, 1) := by decide +kernel
theorem dX10_restore_25 : decode cX10_restore 25 = .ok (.getfield 19, 3) := by decide +kernel
theorem dX10_restore_28 : decode cX10_restore 28 = .ok (.aload_n 0, 1) := by decide +kernel
theorem dX10_restore_29 : decode cX10_restore 29 = .ok (.getfield 23, 3) := by decide +kernel
theorem dX10_restore_32 : decode cX10_restore 32 = .ok (.iload_n 1, 1) := by decide +kernel
theorem dX10_restore_33 : decode cX10_restore 33 = .ok (.aaload, 1) := by decide +kernel
theorem dX10_restore_34 : decode cX10_restore 34 = .ok (.invokevirtual 285, 3) := by decide +kernel
theorem dX10_restore_37 : decode cX10_restore 37 = .ok (.aload_n 0, 1) := by decide +kernel
theorem dX10_restore_38 : decode cX10_restore 38 = .ok (.invokevirtual 138, 3) := by decide +kernel
theorem dX10_restore_41 : decode cX10_restore 41 = .ok (.iconst 1, 1) := by decide +kernel
theorem dX10_restore_42 : decode cX10_restore 42 = .ok (.ireturn, 1) := by decide +kernel
theorem dX10_told_0 : decode cX10_told 0 = .ok (.iload_n 1, 1) := by decide +kernel
theorem dX10_told_1 : decode cX10_told 1 = .ok (.tableswitch 75 0 4 #[35, 43, 51, 59, 67], 35) := by decide +kernel
theorem dX10_told_36 : decode cX10_told 36 = .ok (.aload_n 0, 1) := by decide +kernel
theorem dX10_told_37 : decode cX10_told 37 = .ok (.getfield 19, 3) := by decide +kernel
theorem dX10_told_40 : decode cX10_told 40 = .ok (.getfield 123, 3) := by decide +kernel
theorem dX10_told_43 : decode cX10_told 43 = .ok (.ireturn, 1) := by decide +kernel
theorem dX10_told_44 : decode cX10_told 44 = .ok (.aload_n 0, 1) := by decide +kernel
theorem dX10_told_45 : decode cX10_told 45 = .ok (.getfield 19, 3) := by decide +kernel
theorem dX10_told_48 : decode cX10_told 48 = .ok (.getfield 144, 3) := by decide +kernel
theorem dX10_told_51 : decode cX10_told 51 = .ok (.ireturn, 1) := by decide +kernel
theorem dX10_told_52 : decode cX10_told 52 = .ok (.aload_n 0, 1) := by decide +kernel
theorem dX10_told_53 : decode cX10_told 53 = .ok (.getfield 12, 3) := by decide +kernel
theorem dX10_told_56 : decode cX10_told 56 = .ok (.getfield 107, 3) := by decide +kernel
theorem dX10_told_59 : decode cX10_told 59 = .ok (.ireturn, 1) := by decide +kernel
theorem dX10_told_60 : decode cX10_told 60 = .ok (.aload_n 0, 1) := by decide +kernel
theorem dX10_told_61 : decode cX10_told 61 = .ok (.getfield 19, 3) := by decide +kernel
theorem dX10_told_64 : decode cX10_told 64 = .ok (.getfield 260, 3) := by decide +kernel
theorem dX10_told_67 : decode cX10_told 67 = .ok (.ireturn, 1) := by decide +kernel
theorem dX10_told_68 : decode cX10_told 68 = .ok (.aload_n 0, 1) := by decide +kernel
theorem dX10_told_69 : decode cX10_told 69 = .ok (.getfield 19, 3) := by decide +kernel
theorem dX10_told_72 : decode cX10_told 72 = .ok (.getfield 135, 3) := by decide +kernel
theorem dX10_told_75 : decode cX10_told 75 = .ok (.ireturn, 1) := by decide +kernel
theorem dX10_told_76 : decode cX10_told 76 = .ok (.aload_n 0, 1) := by decide +kernel
theorem dX10_told_77 : decode cX10_told 77 = .ok (.iload_n 1, 1) := by decide +kernel
theorem dX10_told_78 : decode cX10_told 78 = .ok (.invokevirtual 288, 3) := by decide +kernel
theorem dX10_told_81 : decode cX10_told 81 = .ok (.ireturn, 1) := by decide +kernel
theorem dX10_isWithin_0 : decode cX10_isWithin 0 = .ok (.iload_n 0, 1) := by decide +kernel
theorem dX10_isWithin_1 : decode cX10_isWithin 1 = .ok (.iload_n 1, 1) := by decide +kernel
theorem dX10_isWithin_2 : decode cX10_isWithin 2 = .ok (.if_icmp .lt 12, 3) := by decide +kernel
theorem dX10_isWithin_5 : decode cX10_isWithin 5 = .ok (.iload_n 0, 1) := by decide +kernel
theorem dX10_isWithin_6 : decode cX10_isWithin 6 = .ok (.iload_n 2, 1) := by decide +kernel
theorem dX10_isWithin_7 : decode cX10_isWithin 7 = .ok (.if_icmp .gt 7, 3) := by decide +kernel
theorem dX10_isWithin_10 : decode cX10_isWithin 10 = .ok (.iconst 1, 1) := by decide +kernel
theorem dX10_isWithin_11 : decode cX10_isWithin 11 = .ok (.goto 4, 3) := by decide +kernel
theorem dX10_isWithin_14 : decode cX10_isWithin 14 = .ok (.iconst 0, 1) := by decide +kernel
theorem dX10_isWithin_15 : decode cX10_isWithin 15 = .ok (.ireturn, 1) := by decide +kernel
theorem dX10_isHabit_0 : decode cX10_isHabit 0 = .ok (.iload_n 0, 1) := by decide +kernel
theorem dX10_isHabit_1 : decode cX10_isHabit 1 = .ok (.iconst 0, 1) := by decide +kernel
theorem dX10_isHabit_2 : decode cX10_isHabit 2 = .ok (.iconst 5, 1) := by decide +kernel
theorem dX10_isHabit_3 : decode cX10_isHabit 3 = .ok (.invokestatic 99, 3) := by decide +kernel
theorem dX10_isHabit_6 : decode cX10_isHabit 6 = .ok (.ireturn, 1) := by decide +kernel
theorem dX10_isSeat_0 : decode cX10_isSeat 0 = .ok (.iload_n 1, 1) := by decide +kernel
theorem dX10_isSeat_1 : decode cX10_isSeat 1 = .ok (.iconst 0, 1) := by decide +kernel
theorem dX10_isSeat_2 : decode cX10_isSeat 2 = .ok (.aload_n 0, 1) := by decide +kernel
theorem dX10_isSeat_3 : decode cX10_isSeat 3 = .ok (.getfield 19, 3) := by decide +kernel
theorem dX10_isSeat_6 : decode cX10_isSeat 6 = .ok (.getfield 123, 3) := by decide +kernel
theorem dX10_isSeat_9 : decode cX10_isSeat 9 = .ok (.iconst 1, 1) := by decide +kernel
theorem dX10_isSeat_10 : decode cX10_isSeat 10 = .ok (.isub, 1) := by decide +kernel
theorem dX10_isSeat_11 : decode cX10_isSeat 11 = .ok (.invokestatic 99, 3) := by decide +kernel
theorem dX10_isSeat_14 : decode cX10_isSeat 14 = .ok (.ireturn, 1) := by decide +kernel
theorem dX10_renew_0 : decode cX10_renew 0 = .ok (.aload_n 0, 1) := by decide +kernel
theorem dX10_renew_1 : decode cX10_renew 1 = .ok (.getfield 32, 3) := by decide +kernel
theorem dX10_renew_4 : decode cX10_renew 4 = .ok (.iconst 0, 1) := by decide +kernel
theorem dX10_renew_5 : decode cX10_renew 5 = .ok (.invokevirtual 95, 3) := by decide +kernel
theorem dX10_renew_8 : decode cX10_renew 8 = .ok (.aload_n 0, 1) := by decide +kernel
theorem dX10_renew_9 : decode cX10_renew 9 = .ok (.getfield 61, 3) := by decide +kernel
theorem dX10_renew_12 : decode cX10_renew 12 = .ok (.iconst 0, 1) := by decide +kernel
theorem dX10_renew_13 : decode cX10_renew 13 = .ok (.putfield 291, 3) := by decide +kernel
theorem dX10_renew_16 : decode cX10_renew 16 = .ok (.aload_n 0, 1) := by decide +kernel
theorem dX10_renew_17 : decode cX10_renew 17 = .ok (.getfield 68, 3) := by decide +kernel
theorem dX10_renew_20 : decode cX10_renew 20 = .ok (.iconst 0, 1) := by decide +kernel
theorem dX10_renew_21 : decode cX10_renew 21 = .ok (.putfield 295, 3) := by decide +kernel
theorem dX10_renew_24 : decode cX10_renew 24 = .ok (.return_, 1) := by decide +kernel
theorem dX10_seatAll_0 : decode cX10_seatAll 0 = .ok (.iload_n 1, 1) := by decide +kernel
theorem dX10_seatAll_1 : decode cX10_seatAll 1 = .ok (.aload_n 0, 1) := by decide +kernel
theorem dX10_seatAll_2 : decode cX10_seatAll 2 = .ok (.getfield 19, 3) := by decide +kernel
theorem dX10_seatAll_5 : decode cX10_seatAll 5 = .ok (.invokevirtual 296, 3) := by decide +kernel
theorem dX10_seatAll_8 : decode cX10_seatAll 8 = .ok (.iconst (-1), 1) := by decide +kernel
theorem dX10_seatAll_9 : decode cX10_seatAll 9 = .ok (.ixor, 1) := by decide +kernel
theorem dX10_seatAll_10 : decode cX10_seatAll 10 = .ok (.iand, 1) := by decide +kernel
theorem dX10_seatAll_11 : decode cX10_seatAll 11 = .ok (.ifCond .eq 6, 3) := by decide +kernel
theorem dX10_seatAll_14 : decode cX10_seatAll 14 = .ok (.bipush (-2), 2) := by decide +kernel
theorem dX10_seatAll_16 : decode cX10_seatAll 16 = .ok (.ireturn, 1) := by decide +kernel
theorem dX10_seatAll_17 : decode cX10_seatAll 17 = .ok (.aload_n 0, 1) := by decide +kernel
theorem dX10_seatAll_18 : decode cX10_seatAll 18 = .ok (.getfield 44, 3) := by decide +kernel
theorem dX10_seatAll_21 : decode cX10_seatAll 21 = .ok (.iload_n 1, 1) := by decide +kernel
theorem dX10_seatAll_22 : decode cX10_seatAll 22 = .ok (.invokevirtual 299, 3) := by decide +kernel
theorem dX10_seatAll_25 : decode cX10_seatAll 25 = .ok (.ifCond .eq 7, 3) := by decide +kernel
theorem dX10_seatAll_28 : decode cX10_seatAll 28 = .ok (.iconst 0, 1) := by decide +kernel
theorem dX10_seatAll_29 : decode cX10_seatAll 29 = .ok (.goto 5, 3) := by decide +kernel
theorem dX10_seatAll_32 : decode cX10_seatAll 32 = .ok (.bipush (-3), 2) := by decide +kernel
theorem dX10_seatAll_34 : decode cX10_seatAll 34 = .ok (.ireturn, 1) := by decide +kernel
theorem dX10_comeInAfter_0 : decode cX10_comeInAfter 0 = .ok (.aload_n 0, 1) := by decide +kernel
theorem dX10_comeInAfter_1 : decode cX10_comeInAfter 1 = .ok (.getfield 44, 3) := by decide +kernel
theorem dX10_comeInAfter_4 : decode cX10_comeInAfter 4 = .ok (.invokevirtual 228, 3) := by decide +kernel
theorem dX10_comeInAfter_7 : decode cX10_comeInAfter 7 = .ok (.aload_n 0, 1) := by decide +kernel
theorem dX10_comeInAfter_8 : decode cX10_comeInAfter 8 = .ok (.getfield 44, 3) := by decide +kernel
theorem dX10_comeInAfter_11 : decode cX10_comeInAfter 11 = .ok (.iload_n 1, 1) := by decide +kernel
theorem dX10_comeInAfter_12 : decode cX10_comeInAfter 12 = .ok (.invokevirtual 266, 3) := by decide +kernel
theorem dX10_comeInAfter_15 : decode cX10_comeInAfter 15 = .ok (.aload_n 0, 1) := by decide +kernel
theorem dX10_comeInAfter_16 : decode cX10_comeInAfter 16 = .ok (.getfield 44, 3) := by decide +kernel
theorem dX10_comeInAfter_19 : decode cX10_comeInAfter 19 = .ok (.iload_n 2, 1) := by decide +kernel
theorem dX10_comeInAfter_20 : decode cX10_comeInAfter 20 = .ok (.invokevirtual 164, 3) := by decide +kernel
theorem dX10_comeInAfter_23 : decode cX10_comeInAfter 23 = .ok (.aload_n 0, 1) := by decide +kernel
theorem dX10_comeInAfter_24 : decode cX10_comeInAfter 24 = .ok (.getfield 44, 3) := by decide +kernel
theorem dX10_comeInAfter_27 : decode cX10_comeInAfter 27 = .ok (.invokevirtual 232, 3) := by decide +kernel
theorem dX10_comeInAfter_30 : decode cX10_comeInAfter 30 = .ok (.ireturn, 1) := by decide +kernel
theorem dX10_bestPlaces_0 : decode cX10_bestPlaces 0 = .ok (.iconst 0, 1) := by decide +kernel
theorem dX10_bestPlaces_1 : decode cX10_bestPlaces 1 = .ok (.istore_n 3, 1) := by decide +kernel
theorem dX10_bestPlaces_2 : decode cX10_bestPlaces 2 = .ok (.aload_n 0, 1) := by decide +kernel
theorem dX10_bestPlaces_3 : decode cX10_bestPlaces 3 = .ok (.iconst 0, 1) := by decide +kernel
theorem dX10_bestPlaces_4 : decode cX10_bestPlaces 4 = .ok (.iload_n 1, 1) := by decide +kernel
theorem dX10_bestPlaces_5 : decode cX10_bestPlaces 5 = .ok (.invokevirtual 302, 3) := by decide +kernel
theorem dX10_bestPlaces_8 : decode cX10_bestPlaces 8 = .ok (.lstore 4, 2) := by decide +kernel
theorem dX10_bestPlaces_10 : decode cX10_bestPlaces 10 = .ok (.aload_n 0, 1) := by decide +kernel
theorem dX10_bestPlaces_11 : decode cX10_bestPlaces 11 = .ok (.getfield 19, 3) := by decide +kernel
theorem dX10_bestPlaces_14 : decode cX10_bestPlaces 14 = .ok (.invokevirtual 306, 3) := by decide +kernel
theorem dX10_bestPlaces_17 : decode cX10_bestPlaces 17 = .ok (.istore 6, 2) := by decide +kernel
theorem dX10_bestPlaces_19 : decode cX10_bestPlaces 19 = .ok (.iconst 1, 1) := by decide +kernel
theorem dX10_bestPlaces_20 : decode cX10_bestPlaces 20 = .ok (.aload_n 0, 1) := by decide +kernel
theorem dX10_bestPlaces_21 : decode cX10_bestPlaces 21 = .ok (.getfield 19, 3) := by decide +kernel
theorem dX10_bestPlaces_24 : decode cX10_bestPlaces 24 = .ok (.getfield 123, 3) := by decide +kernel
theorem dX10_bestPlaces_27 : decode cX10_bestPlaces 27 = .ok (.iconst 1, 1) := by decide +kernel
theorem dX10_bestPlaces_28 : decode cX10_bestPlaces 28 = .ok (.isub, 1) := by decide +kernel
theorem dX10_bestPlaces_29 : decode cX10_bestPlaces 29 = .ok (.ishl, 1) := by decide +kernel
theorem dX10_bestPlaces_30 : decode cX10_bestPlaces 30 = .ok (.istore 7, 2) := by decide +kernel
theorem dX10_bestPlaces_32 : decode cX10_bestPlaces 32 = .ok (.iconst 1, 1) := by decide +kernel
theorem dX10_bestPlaces_33 : decode cX10_bestPlaces 33 = .ok (.istore 8, 2) := by decide +kernel
theorem dX10_bestPlaces_35 : decode cX10_bestPlaces 35 = .ok (.iload 8, 2) := by decide +kernel
theorem dX10_bestPlaces_37 : decode cX10_bestPlaces 37 = .ok (.iload 7, 2) := by decide +kernel
theorem dX10_bestPlaces_39 : decode cX10_bestPlaces 39 = .ok (.if_icmp .ge 74, 3) := by decide +kernel
theorem dX10_bestPlaces_42 : decode cX10_bestPlaces 42 = .ok (.iload 8, 2) := by decide +kernel
theorem dX10_bestPlaces_44 : decode cX10_bestPlaces 44 = .ok (.invokestatic 180, 3) := by decide +kernel
theorem dX10_bestPlaces_47 : decode cX10_bestPlaces 47 = .ok (.istore 9, 2) := by decide +kernel
theorem dX10_bestPlaces_49 : decode cX10_bestPlaces 49 = .ok (.iload 9, 2) := by decide +kernel
theorem dX10_bestPlaces_51 : decode cX10_bestPlaces 51 = .ok (.iload_n 2, 1) := by decide +kernel
theorem dX10_bestPlaces_52 : decode cX10_bestPlaces 52 = .ok (.if_icmp .gt 55, 3) := by decide +kernel
theorem dX10_bestPlaces_55 : decode cX10_bestPlaces 55 = .ok (.iload 8, 2) := by decide +kernel
theorem dX10_bestPlaces_57 : decode cX10_bestPlaces 57 = .ok (.iload 6, 2) := by decide +kernel
theorem dX10_bestPlaces_59 : decode cX10_bestPlaces 59 = .ok (.iand, 1) := by decide +kernel
theorem dX10_bestPlaces_60 : decode cX10_bestPlaces 60 = .ok (.ifCond .eq 6, 3) := by decide +kernel
theorem dX10_bestPlaces_63 : decode cX10_bestPlaces 63 = .ok (.goto 44, 3) := by decide +kernel
theorem dX10_bestPlaces_66 : decode cX10_bestPlaces 66 = .ok (.aload_n 0, 1) := by decide +kernel
theorem dX10_bestPlaces_67 : decode cX10_bestPlaces 67 = .ok (.iload 8, 2) := by decide +kernel
theorem dX10_bestPlaces_69 : decode cX10_bestPlaces 69 = .ok (.iload_n 1, 1) := by decide +kernel
theorem dX10_bestPlaces_70 : decode cX10_bestPlaces 70 = .ok (.invokevirtual 302, 3) := by decide +kernel
theorem dX10_bestPlaces_73 : decode cX10_bestPlaces 73 = .ok (.lstore 10, 2) := by decide +kernel
theorem dX10_bestPlaces_75 : decode cX10_bestPlaces 75 = .ok (.lload 10, 2) := by decide +kernel
theorem dX10_bestPlaces_77 : decode cX10_bestPlaces 77 = .ok (.lload 4, 2) := by decide +kernel
theorem dX10_bestPlaces_79 : decode cX10_bestPlaces 79 = .ok (.lcmp, 1) := by decide +kernel
theorem dX10_bestPlaces_80 : decode cX10_bestPlaces 80 = .ok (.ifCond .gt 20, 3) := by decide +kernel
theorem dX10_bestPlaces_83 : decode cX10_bestPlaces 83 = .ok (.lload 10, 2) := by decide +kernel
theorem dX10_bestPlaces_85 : decode cX10_bestPlaces 85 = .ok (.lload 4, 2) := by decide +kernel
theorem dX10_bestPlaces_87 : decode cX10_bestPlaces 87 = .ok (.lcmp, 1) := by decide +kernel
theorem dX10_bestPlaces_88 : decode cX10_bestPlaces 88 = .ok (.ifCond .ne 19, 3) := by decide +kernel
theorem dX10_bestPlaces_91 : decode cX10_bestPlaces 91 = .ok (.iload 9, 2) := by decide +kernel
theorem dX10_bestPlaces_93 : decode cX10_bestPlaces 93 = .ok (.iload_n 3, 1) := by decide +kernel
theorem dX10_bestPlaces_94 : decode cX10_bestPlaces 94 = .ok (.invokestatic 180, 3) := by decide +kernel
theorem dX10_bestPlaces_97 : decode cX10_bestPlaces 97 = .ok (.if_icmp .ge 10, 3) := by decide +kernel
theorem dX10_bestPlaces_100 : decode cX10_bestPlaces 100 = .ok (.iload 8, 2) := by decide +kernel
theorem dX10_bestPlaces_102 : decode cX10_bestPlaces 102 = .ok (.istore_n 3, 1) := by decide +kernel
theorem dX10_bestPlaces_103 : decode cX10_bestPlaces 103 = .ok (.lload 10, 2) := by decide +kernel
theorem dX10_bestPlaces_105 : decode cX10_bestPlaces 105 = .ok (.lstore 4, 2) := by decide +kernel
theorem dX10_bestPlaces_107 : decode cX10_bestPlaces 107 = .ok (.iinc 8 1, 3) := by decide +kernel
theorem dX10_bestPlaces_110 : decode cX10_bestPlaces 110 = .ok (.goto (-75), 3) := by decide +kernel
theorem dX10_bestPlaces_113 : decode cX10_bestPlaces 113 = .ok (.iload_n 3, 1) := by decide +kernel
theorem dX10_bestPlaces_114 : decode cX10_bestPlaces 114 = .ok (.ireturn, 1) := by decide +kernel
theorem dX10_worthOfArms_0 : decode cX10_worthOfArms 0 = .ok (.iload_n 2, 1) := by decide +kernel
theorem dX10_worthOfArms_1 : decode cX10_worthOfArms 1 = .ok (.bipush 6, 2) := by decide +kernel
theorem dX10_worthOfArms_3 : decode cX10_worthOfArms 3 = .ok (.if_icmp .eq 11, 3) := by decide +kernel
theorem dX10_worthOfArms_6 : decode cX10_worthOfArms 6 = .ok (.aload_n 0, 1) := by decide +kernel
theorem dX10_worthOfArms_7 : decode cX10_worthOfArms 7 = .ok (.iload_n 1, 1) := by decide +kernel
theorem dX10_worthOfArms_8 : decode cX10_worthOfArms 8 = .ok (.iload_n 2, 1) := by decide +kernel
theorem dX10_worthOfArms_9 : decode cX10_worthOfArms 9 = .ok (.invokevirtual 241, 3) := by decide +kernel
theorem dX10_worthOfArms_12 : decode cX10_worthOfArms 12 = .ok (.i2l, 1) := by decide +kernel
theorem dX10_worthOfArms_13 : decode cX10_worthOfArms 13 = .ok (.lreturn, 1) := by decide +kernel
theorem dX10_worthOfArms_14 : decode cX10_worthOfArms 14 = .ok (.aload_n 0, 1) := by decide +kernel
theorem dX10_worthOfArms_15 : decode cX10_worthOfArms 15 = .ok (.getfield 36, 3) := by decide +kernel
theorem dX10_worthOfArms_18 : decode cX10_worthOfArms 18 = .ok (.iload_n 1, 1) := by decide +kernel
theorem dX10_worthOfArms_19 : decode cX10_worthOfArms 19 = .ok (.invokevirtual 95, 3) := by decide +kernel
theorem dX10_worthOfArms_22 : decode cX10_worthOfArms 22 = .ok (.aload_n 0, 1) := by decide +kernel
theorem dX10_worthOfArms_23 : decode cX10_worthOfArms 23 = .ok (.getfield 54, 3) := by decide +kernel
theorem dX10_worthOfArms_26 : decode cX10_worthOfArms 26 = .ok (.aload_n 0, 1) := by decide +kernel
theorem dX10_worthOfArms_27 : decode cX10_worthOfArms 27 = .ok (.getfield 36, 3) := by decide +kernel
theorem dX10_worthOfArms_30 : decode cX10_worthOfArms 30 = .ok (.invokevirtual 309, 3) := by decide +kernel
theorem dX10_worthOfArms_33 : decode cX10_worthOfArms 33 = .ok (.lreturn, 1) := by decide +kernel
theorem dX10_comeInWithArms_0 : decode cX10_comeInWithArms 0 = .ok (.aload_n 0, 1) := by decide +kernel
theorem dX10_comeInWithArms_1 : decode cX10_comeInWithArms 1 = .ok (.getfield 36, 3) := by decide +kernel
theorem dX10_comeInWithArms_4 : decode cX10_comeInWithArms 4 = .ok (.iload_n 1, 1) := by decide +kernel
theorem dX10_comeInWithArms_5 : decode cX10_comeInWithArms 5 = .ok (.invokevirtual 95, 3) := by decide +kernel
theorem dX10_comeInWithArms_8 : decode cX10_comeInWithArms 8 = .ok (.aload_n 0, 1) := by decide +kernel
theorem dX10_comeInWithArms_9 : decode cX10_comeInWithArms 9 = .ok (.getfield 48, 3) := by decide +kernel
theorem dX10_comeInWithArms_12 : decode cX10_comeInWithArms 12 = .ok (.invokevirtual 228, 3) := by decide +kernel
theorem dX10_comeInWithArms_15 : decode cX10_comeInWithArms 15 = .ok (.aload_n 0, 1) := by decide +kernel
theorem dX10_comeInWithArms_16 : decode cX10_comeInWithArms 16 = .ok (.getfield 48, 3) := by decide +kernel
theorem dX10_comeInWithArms_19 : decode cX10_comeInWithArms 19 = .ok (.iload_n 2, 1) := by decide +kernel
theorem dX10_comeInWithArms_20 : decode cX10_comeInWithArms 20 = .ok (.invokevirtual 164, 3) := by decide +kernel
theorem dX10_comeInWithArms_23 : decode cX10_comeInWithArms 23 = .ok (.aload_n 0, 1) := by decide +kernel
theorem dX10_comeInWithArms_24 : decode cX10_comeInWithArms 24 = .ok (.getfield 48, 3) := by decide +kernel
theorem dX10_comeInWithArms_27 : decode cX10_comeInWithArms 27 = .ok (.invokevirtual 232, 3) := by decide +kernel
theorem dX10_comeInWithArms_30 : decode cX10_comeInWithArms 30 = .ok (.ireturn, 1) := by decide +kernel
theorem dX10_letPass_0 : decode cX10_letPass 0 = .ok (.iload_n 2, 1) := by decide +kernel
theorem dX10_letPass_1 : decode cX10_letPass 1 = .ok (.invokestatic 158, 3) := by decide +kernel
theorem dX10_letPass_4 : decode cX10_letPass 4 = .ok (.ifCond .eq 22, 3) := by decide +kernel
theorem dX10_letPass_7 : decode cX10_letPass 7 = .ok (.iload_n 3, 1) := by decide +kernel
theorem dX10_letPass_8 : decode cX10_letPass 8 = .ok (.iconst 1, 1) := by decide +kernel
theorem dX10_letPass_9 : decode cX10_letPass 9 = .ok (.iconst 3, 1) := by decide +kernel
theorem dX10_letPass_10 : decode cX10_letPass 10 = .ok (.invokestatic 99, 3) := by decide +kernel
theorem dX10_letPass_13 : decode cX10_letPass 13 = .ok (.ifCond .eq 13, 3) := by decide +kernel
theorem dX10_letPass_16 : decode cX10_letPass 16 = .ok (.iload 4, 2) := by decide +kernel
theorem dX10_letPass_18 : decode cX10_letPass 18 = .ok (.iconst 0, 1) := by decide +kernel
theorem dX10_letPass_19 : decode cX10_letPass 19 = .ok (.iconst 1, 1) := by decide +kernel
theorem dX10_letPass_20 : decode cX10_letPass 20 = .ok (.invokestatic 99, 3) := by decide +kernel
theorem dX10_letPass_23 : decode cX10_letPass 23 = .ok (.ifCond .ne 6, 3) := by decide +kernel
theorem dX10_letPass_26 : decode cX10_letPass 26 = .ok (.bipush (-2), 2) := by decide +kernel
theorem dX10_letPass_28 : decode cX10_letPass 28 = .ok (.ireturn, 1) := by decide +kernel
theorem dX10_letPass_29 : decode cX10_letPass 29 = .ok (.aload_n 0, 1) := by decide +kernel
theorem dX10_letPass_30 : decode cX10_letPass 30 = .ok (.iload_n 1, 1) := by decide +kernel
theorem dX10_letPass_31 : decode cX10_letPass 31 = .ok (.invokevirtual 151, 3) := by decide +kernel
theorem dX10_letPass_34 : decode cX10_letPass 34 = .ok (.istore 5, 2) := by decide +kernel
theorem dX10_letPass_36 : decode cX10_letPass 36 = .ok (.iload 5, 2) := by decide +kernel
theorem dX10_letPass_38 : decode cX10_letPass 38 = .ok (.ifCond .ne 13, 3) := by decide +kernel
theorem dX10_letPass_41 : decode cX10_letPass 41 = .ok (.aload_n 0, 1) := by decide +kernel
theorem dX10_letPass_42 : decode cX10_letPass 42 = .ok (.getfield 84, 3) := by decide +kernel
theorem dX10_letPass_45 : decode cX10_letPass 45 = .ok (.iload_n 1, 1) := by decide +kernel
theorem dX10_letPass_46 : decode cX10_letPass 46 = .ok (.iload_n 2, 1) := by decide +kernel
theorem dX10_letPass_47 : decode cX10_letPass 47 = .ok (.iload_n 3, 1) := by decide +kernel
theorem dX10_letPass_48 : decode cX10_letPass 48 = .ok (.invokevirtual 312, 3) := by decide +kernel
theorem dX10_letPass_51 : decode cX10_letPass 51 = .ok (.iload 5, 2) := by decide +kernel
theorem dX10_letPass_53 : decode cX10_letPass 53 = .ok (.ireturn, 1) := by decide +kernel
theorem dX10_seatSeenRow_0 : decode cX10_seatSeenRow 0 = .ok (.aload_n 0, 1) := by decide +kernel
theorem dX10_seatSeenRow_1 : decode cX10_seatSeenRow 1 = .ok (.getfield 44, 3) := by decide +kernel
theorem dX10_seatSeenRow_4 : decode cX10_seatSeenRow 4 = .ok (.invokevirtual 228, 3) := by decide +kernel
theorem dX10_seatSeenRow_7 : decode cX10_seatSeenRow 7 = .ok (.iconst 0, 1) := by decide +kernel
theorem dX10_seatSeenRow_8 : decode cX10_seatSeenRow 8 = .ok (.istore_n 2, 1) := by decide +kernel
theorem dX10_seatSeenRow_9 : decode cX10_seatSeenRow 9 = .ok (.iload_n 2, 1) := by decide +kernel
theorem dX10_seatSeenRow_10 : decode cX10_seatSeenRow 10 = .ok (.aload_n 0, 1) := by decide +kernel
theorem dX10_seatSeenRow_11 : decode cX10_seatSeenRow 11 = .ok (.getfield 19, 3) := by decide +kernel
theorem dX10_seatSeenRow_14 : decode cX10_seatSeenRow 14 = .ok (.getfield 269, 3) := by decide +kernel
theorem dX10_seatSeenRow_17 : decode cX10_seatSeenRow 17 = .ok (.iload_n 1, 1) := by decide +kernel
theorem dX10_seatSeenRow_18 : decode cX10_seatSeenRow 18 = .ok (.iaload, 1) := by decide +kernel
theorem dX10_seatSeenRow_19 : decode cX10_seatSeenRow 19 = .ok (.if_icmp .ge 25, 3) := by decide +kernel
theorem dX10_seatSeenRow_22 : decode cX10_seatSeenRow 22 = .ok (.aload_n 0, 1) := by decide +kernel
theorem dX10_seatSeenRow_23 : decode cX10_seatSeenRow 23 = .ok (.getfield 44, 3) := by decide +kernel
theorem dX10_seatSeenRow_26 : decode cX10_seatSeenRow 26 = .ok (.aload_n 0, 1) := by decide +kernel
theorem dX10_seatSeenRow_27 : decode cX10_seatSeenRow 27 = .ok (.getfield 19, 3) := by decide +kernel
theorem dX10_seatSeenRow_30 : decode cX10_seatSeenRow 30 = .ok (.iload_n 1, 1) := by decide +kernel
theorem dX10_seatSeenRow_31 : decode cX10_seatSeenRow 31 = .ok (.iload_n 2, 1) := by decide +kernel
theorem dX10_seatSeenRow_32 : decode cX10_seatSeenRow 32 = .ok (.invokevirtual 316, 3) := by decide +kernel
theorem dX10_seatSeenRow_35 : decode cX10_seatSeenRow 35 = .ok (.invokevirtual 266, 3) := by decide +kernel
theorem dX10_seatSeenRow_38 : decode cX10_seatSeenRow 38 = .ok (.iinc 2 1, 3) := by decide +kernel
theorem dX10_seatSeenRow_41 : decode cX10_seatSeenRow 41 = .ok (.goto (-32), 3) := by decide +kernel
theorem dX10_seatSeenRow_44 : decode cX10_seatSeenRow 44 = .ok (.return_, 1) := by decide +kernel
theorem dX10_firstMisfit_0 : decode cX10_firstMisfit 0 = .ok (.iconst 0, 1) := by decide +kernel
theorem dX10_firstMisfit_1 : decode cX10_firstMisfit 1 = .ok (.istore_n 2, 1) := by decide +kernel
theorem dX10_firstMisfit_2 : decode cX10_firstMisfit 2 = .ok (.iload_n 2, 1) := by decide +kernel
theorem dX10_firstMisfit_3 : decode cX10_firstMisfit 3 = .ok (.aload_n 0, 1) := by decide +kernel
theorem dX10_firstMisfit_4 : decode cX10_firstMisfit 4 = .ok (.getfield 19, 3) := by decide +kernel
theorem dX10_firstMisfit_7 : decode cX10_firstMisfit 7 = .ok (.getfield 135, 3) := by decide +kernel
theorem dX10_firstMisfit_10 : decode cX10_firstMisfit 10 = .ok (.if_icmp .ge 77, 3) := by decide +kernel
theorem dX10_firstMisfit_13 : decode cX10_firstMisfit 13 = .ok (.aload_n 0, 1) := by decide +kernel
theorem dX10_firstMisfit_14 : decode cX10_firstMisfit 14 = .ok (.getfield 44, 3) := by decide +kernel
theorem dX10_firstMisfit_17 : decode cX10_firstMisfit 17 = .ok (.invokevirtual 228, 3) := by decide +kernel
theorem dX10_firstMisfit_20 : decode cX10_firstMisfit 20 = .ok (.iconst 0, 1) := by decide +kernel
theorem dX10_firstMisfit_21 : decode cX10_firstMisfit 21 = .ok (.istore_n 3, 1) := by decide +kernel
theorem dX10_firstMisfit_22 : decode cX10_firstMisfit 22 = .ok (.iload_n 3, 1) := by decide +kernel
theorem dX10_firstMisfit_23 : decode cX10_firstMisfit 23 = .ok (.aload_n 0, 1) := by decide +kernel
theorem dX10_firstMisfit_24 : decode cX10_firstMisfit 24 = .ok (.getfield 19, 3) := by decide +kernel
theorem dX10_firstMisfit_27 : decode cX10_firstMisfit 27 = .ok (.getfield 269, 3) := by decide +kernel
theorem dX10_firstMisfit_30 : decode cX10_firstMisfit 30 = .ok (.iload_n 2, 1) := by decide +kernel
theorem dX10_firstMisfit_31 : decode cX10_firstMisfit 31 = .ok (.iaload, 1) := by decide +kernel
theorem dX10_firstMisfit_32 : decode cX10_firstMisfit 32 = .ok (.if_icmp .ge 49, 3) := by decide +kernel
theorem dX10_firstMisfit_35 : decode cX10_firstMisfit 35 = .ok (.aload_n 0, 1) := by decide +kernel
theorem dX10_firstMisfit_36 : decode cX10_firstMisfit 36 = .ok (.getfield 19, 3) := by decide +kernel
theorem dX10_firstMisfit_39 : decode cX10_firstMisfit 39 = .ok (.iload_n 2, 1) := by decide +kernel
theorem dX10_firstMisfit_40 : decode cX10_firstMisfit 40 = .ok (.iload_n 3, 1) := by decide +kernel
theorem dX10_firstMisfit_41 : decode cX10_firstMisfit 41 = .ok (.invokevirtual 316, 3) := by decide +kernel
theorem dX10_firstMisfit_44 : decode cX10_firstMisfit 44 = .ok (.istore 4, 2) := by decide +kernel
theorem dX10_firstMisfit_46 : decode cX10_firstMisfit 46 = .ok (.aload_n 0, 1) := by decide +kernel
theorem dX10_firstMisfit_47 : decode cX10_firstMisfit 47 = .ok (.getfield 44, 3) := by decide +kernel
theorem dX10_firstMisfit_50 : decode cX10_firstMisfit 50 = .ok (.iload_n 1, 1) := by decide +kernel
theorem dX10_firstMisfit_51 : decode cX10_firstMisfit 51 = .ok (.invokevirtual 161, 3) := by decide +kernel
theorem dX10_firstMisfit_54 : decode cX10_firstMisfit 54 = .ok (.iload 4, 2) := by decide +kernel
theorem dX10_firstMisfit_56 : decode cX10_firstMisfit 56 = .ok (.if_icmp .eq 10, 3) := by decide +kernel
theorem dX10_firstMisfit_59 : decode cX10_firstMisfit 59 = .ok (.bipush 100, 2) := by decide +kernel
theorem dX10_firstMisfit_61 : decode cX10_firstMisfit 61 = .ok (.iload_n 2, 1) := by decide +kernel
theorem dX10_firstMisfit_62 : decode cX10_firstMisfit 62 = .ok (.imul, 1) := by decide +kernel
theorem dX10_firstMisfit_63 : decode cX10_firstMisfit 63 = .ok (.iload_n 3, 1) := by decide +kernel
theorem dX10_firstMisfit_64 : decode cX10_firstMisfit 64 = .ok (.iadd, 1) := by decide +kernel
theorem dX10_firstMisfit_65 : decode cX10_firstMisfit 65 = .ok (.ireturn, 1) := by decide +kernel
theorem dX10_firstMisfit_66 : decode cX10_firstMisfit 66 = .ok (.aload_n 0, 1) := by decide +kernel
theorem dX10_firstMisfit_67 : decode cX10_firstMisfit 67 = .ok (.getfield 44, 3) := by decide +kernel
theorem dX10_firstMisfit_70 : decode cX10_firstMisfit 70 = .ok (.iload 4, 2) := by decide +kernel
theorem dX10_firstMisfit_72 : decode cX10_firstMisfit 72 = .ok (.invokevirtual 266, 3) := by decide +kernel
theorem dX10_firstMisfit_75 : decode cX10_firstMisfit 75 = .ok (.iinc 3 1, 3) := by decide +kernel
theorem dX10_firstMisfit_78 : decode cX10_firstMisfit 78 = .ok (.goto (-56), 3) := by decide +kernel
theorem dX10_firstMisfit_81 : decode cX10_firstMisfit 81 = .ok (.iinc 2 1, 3) := by decide +kernel
theorem dX10_firstMisfit_84 : decode cX10_firstMisfit 84 = .ok (.goto (-82), 3) := by decide +kernel
theorem dX10_firstMisfit_87 : decode cX10_firstMisfit 87 = .ok (.bipush (-6), 2) := by decide +kernel
theorem dX10_firstMisfit_89 : decode cX10_firstMisfit 89 = .ok (.ireturn, 1) := by decide +kernel
theorem dX10_worthTold_0 : decode cX10_worthTold 0 = .ok (.iload_n 1, 1) := by decide +kernel
theorem dX10_worthTold_1 : decode cX10_worthTold 1 = .ok (.bipush 10, 2) := by decide +kernel
theorem dX10_worthTold_3 : decode cX10_worthTold 3 = .ok (.bipush 21, 2) := by decide +kernel
theorem dX10_worthTold_5 : decode cX10_worthTold 5 = .ok (.invokestatic 99, 3) := by decide +kernel
theorem dX10_worthTold_8 : decode cX10_worthTold 8 = .ok (.ifCond .ne 6, 3) := by decide +kernel
theorem dX10_worthTold_11 : decode cX10_worthTold 11 = .ok (.bipush (-2), 2) := by decide +kernel
theorem dX10_worthTold_13 : decode cX10_worthTold 13 = .ok (.ireturn, 1) := by decide +kernel
theorem dX10_worthTold_14 : decode cX10_worthTold 14 = .ok (.iload_n 1, 1) := by decide +kernel
theorem dX10_worthTold_15 : decode cX10_worthTold 15 = .ok (.bipush 10, 2) := by decide +kernel
theorem dX10_worthTold_17 : decode cX10_worthTold 17 = .ok (.isub, 1) := by decide +kernel
theorem dX10_worthTold_18 : decode cX10_worthTold 18 = .ok (.istore_n 2, 1) := by decide +kernel
theorem dX10_worthTold_19 : decode cX10_worthTold 19 = .ok (.aload_n 0, 1) := by decide +kernel
theorem dX10_worthTold_20 : decode cX10_worthTold 20 = .ok (.iload_n 2, 1) := by decide +kernel
theorem dX10_worthTold_21 : decode cX10_worthTold 21 = .ok (.invokevirtual 141, 3) := by decide +kernel
theorem dX10_worthTold_24 : decode cX10_worthTold 24 = .ok (.ifCond .eq 15, 3) := by decide +kernel
theorem dX10_worthTold_27 : decode cX10_worthTold 27 = .ok (.aload_n 0, 1) := by decide +kernel
theorem dX10_worthTold_28 : decode cX10_worthTold 28 = .ok (.getfield 19, 3) := by decide +kernel
theorem dX10_worthTold_31 : decode cX10_worthTold 31 = .ok (.getfield 126, 3) := by decide +kernel
theorem dX10_worthTold_34 : decode cX10_worthTold 34 = .ok (.iload_n 2, 1) := by decide +kernel
theorem dX10_worthTold_35 : decode cX10_worthTold 35 = .ok (.iaload, 1) := by decide +kernel
theorem dX10_worthTold_36 : decode cX10_worthTold 36 = .ok (.goto 5, 3) := by decide +kernel
theorem dX10_worthTold_39 : decode cX10_worthTold 39 = .ok (.bipush (-6), 2) := by decide +kernel
theorem dX10_worthTold_41 : decode cX10_worthTold 41 = .ok (.ireturn, 1) := by decide +kernel
theorem dX10_lowestPart_0 : decode cX10_lowestPart 0 = .ok (.lload_n 0, 1) := by decide +kernel
theorem dX10_lowestPart_1 : decode cX10_lowestPart 1 = .ok (.lload_n 2, 1) := by decide +kernel
theorem dX10_lowestPart_2 : decode cX10_lowestPart 2 = .ok (.invokestatic 319, 3) := by decide +kernel
theorem dX10_lowestPart_5 : decode cX10_lowestPart 5 = .ok (.lstore 5, 2) := by decide +kernel
theorem dX10_lowestPart_7 : decode cX10_lowestPart 7 = .ok (.lload 5, 2) := by decide +kernel
theorem dX10_lowestPart_9 : decode cX10_lowestPart 9 = .ok (.lconst 0, 1) := by decide +kernel
theorem dX10_lowestPart_10 : decode cX10_lowestPart 10 = .ok (.lcmp, 1) := by decide +kernel
theorem dX10_lowestPart_11 : decode cX10_lowestPart 11 = .ok (.ifCond .ne 5, 3) := by decide +kernel
theorem dX10_lowestPart_14 : decode cX10_lowestPart 14 = .ok (.lconst 0, 1) := by decide +kernel
theorem dX10_lowestPart_15 : decode cX10_lowestPart 15 = .ok (.lreturn, 1) := by decide +kernel
theorem dX10_lowestPart_16 : decode cX10_lowestPart 16 = .ok (.iload 4, 2) := by decide +kernel
theorem dX10_lowestPart_18 : decode cX10_lowestPart 18 = .ok (.ifCond .ne 7, 3) := by decide +kernel
theorem dX10_lowestPart_21 : decode cX10_lowestPart 21 = .ok (.lload_n 0, 1) := by decide +kernel
theorem dX10_lowestPart_22 : decode cX10_lowestPart 22 = .ok (.goto 4, 3) := by decide +kernel
theorem dX10_lowestPart_25 : decode cX10_lowestPart 25 = .ok (.lload_n 2, 1) := by decide +kernel
theorem dX10_lowestPart_26 : decode cX10_lowestPart 26 = .ok (.lload 5, 2) := by decide +kernel
theorem dX10_lowestPart_28 : decode cX10_lowestPart 28 = .ok (.ldiv, 1) := by decide +kernel
theorem dX10_lowestPart_29 : decode cX10_lowestPart 29 = .ok (.lreturn, 1) := by decide +kernel
theorem dX10_commonDivisor_0 : decode cX10_commonDivisor 0 = .ok (.lload_n 0, 1) := by decide +kernel
theorem dX10_commonDivisor_1 : decode cX10_commonDivisor 1 = .ok (.lstore 4, 2) := by decide +kernel
theorem dX10_commonDivisor_3 : decode cX10_commonDivisor 3 = .ok (.lload_n 2, 1) := by decide +kernel
theorem dX10_commonDivisor_4 : decode cX10_commonDivisor 4 = .ok (.lstore 6, 2) := by decide +kernel
theorem dX10_commonDivisor_6 : decode cX10_commonDivisor 6 = .ok (.iconst 0, 1) := by decide +kernel
theorem dX10_commonDivisor_7 : decode cX10_commonDivisor 7 = .ok (.istore 8, 2) := by decide +kernel
theorem dX10_commonDivisor_9 : decode cX10_commonDivisor 9 = .ok (.iload 8, 2) := by decide +kernel
theorem dX10_commonDivisor_11 : decode cX10_commonDivisor 11 = .ok (.bipush 100, 2) := by decide +kernel
theorem dX10_commonDivisor_13 : decode cX10_commonDivisor 13 = .ok (.if_icmp .ge 31, 3) := by decide +kernel
theorem dX10_commonDivisor_16 : decode cX10_commonDivisor 16 = .ok (.lload 6, 2) := by decide +kernel
theorem dX10_commonDivisor_18 : decode cX10_commonDivisor 18 = .ok (.lconst 0, 1) := by decide +kernel
theorem dX10_commonDivisor_19 : decode cX10_commonDivisor 19 = .ok (.lcmp, 1) := by decide +kernel
theorem dX10_commonDivisor_20 : decode cX10_commonDivisor 20 = .ok (.ifCond .eq 24, 3) := by decide +kernel
theorem dX10_commonDivisor_23 : decode cX10_commonDivisor 23 = .ok (.lload 4, 2) := by decide +kernel
theorem dX10_commonDivisor_25 : decode cX10_commonDivisor 25 = .ok (.lload 6, 2) := by decide +kernel
theorem dX10_commonDivisor_27 : decode cX10_commonDivisor 27 = .ok (.lrem, 1) := by decide +kernel
theorem dX10_commonDivisor_28 : decode cX10_commonDivisor 28 = .ok (.lstore 9, 2) := by decide +kernel
theorem dX10_commonDivisor_30 : decode cX10_commonDivisor 30 = .ok (.lload 6, 2) := by decide +kernel
theorem dX10_commonDivisor_32 : decode cX10_commonDivisor 32 = .ok (.lstore 4, 2) := by decide +kernel
theorem dX10_commonDivisor_34 : decode cX10_commonDivisor 34 = .ok (.lload 9, 2) := by decide +kernel
theorem dX10_commonDivisor_36 : decode cX10_commonDivisor 36 = .ok (.lstore 6, 2) := by decide +kernel
theorem dX10_commonDivisor_38 : decode cX10_commonDivisor 38 = .ok (.iinc 8 1, 3) := by decide +kernel
theorem dX10_commonDivisor_41 : decode cX10_commonDivisor 41 = .ok (.goto (-32), 3) := by decide +kernel
theorem dX10_commonDivisor_44 : decode cX10_commonDivisor 44 = .ok (.lload 4, 2) := by decide +kernel
theorem dX10_commonDivisor_46 : decode cX10_commonDivisor 46 = .ok (.lreturn, 1) := by decide +kernel
theorem dX11_init_0 : decode cX11_init 0 = .ok (.aload_n 0, 1) := by decide +kernel
theorem dX11_init_1 : decode cX11_init 1 = .ok (.invokespecial 1, 3) := by decide +kernel
theorem dX11_init_4 : decode cX11_init 4 = .ok (.aload_n 0, 1) := by decide +kernel
theorem dX11_init_5 : decode cX11_init 5 = .ok (.bipush 30, 2) := by decide +kernel
theorem dX11_init_7 : decode cX11_init 7 = .ok (.newarray .int, 2) := by decide +kernel
theorem dX11_init_9 : decode cX11_init 9 = .ok (.putfield 7, 3) := by decide +kernel
theorem dX11_init_12 : decode cX11_init 12 = .ok (.aload_n 0, 1) := by decide +kernel
theorem dX11_init_13 : decode cX11_init 13 = .ok (.bipush 12, 2) := by decide +kernel
theorem dX11_init_15 : decode cX11_init 15 = .ok (.newarray .int, 2) := by decide +kernel
theorem dX11_init_17 : decode cX11_init 17 = .ok (.putfield 13, 3) := by decide +kernel
theorem dX11_init_20 : decode cX11_init 20 = .ok (.aload_n 0, 1) := by decide +kernel
theorem dX11_init_21 : decode cX11_init 21 = .ok (.bipush 12, 2) := by decide +kernel
theorem dX11_init_23 : decode cX11_init 23 = .ok (.newarray .int, 2) := by decide +kernel
theorem dX11_init_25 : decode cX11_init 25 = .ok (.putfield 16, 3) := by decide +kernel
theorem dX11_init_28 : decode cX11_init 28 = .ok (.aload_n 0, 1) := by decide +kernel
theorem dX11_init_29 : decode cX11_init 29 = .ok (.sipush 144, 3) := by decide +kernel
theorem dX11_init_32 : decode cX11_init 32 = .ok (.newarray .int, 2) := by decide +kernel
theorem dX11_init_34 : decode cX11_init 34 = .ok (.putfield 19, 3) := by decide +kernel
theorem dX11_init_37 : decode cX11_init 37 = .ok (.aload_n 0, 1) := by decide +kernel
theorem dX11_init_38 : decode cX11_init 38 = .ok (.sipush 4096, 3) := by decide +kernel
theorem dX11_init_41 : decode cX11_init 41 = .ok (.newarray .int, 2) := by decide +kernel
theorem dX11_init_43 : decode cX11_init 43 = .ok (.putfield 22, 3) := by decide +kernel
theorem dX11_init_46 : decode cX11_init 46 = .ok (.aload_n 0, 1) := by decide +kernel
theorem dX11_init_47 : decode cX11_init 47 = .ok (.sipush 4096, 3) := by decide +kernel
theorem dX11_init_50 : decode cX11_init 50 = .ok (.newarray .long, 2) := by decide +kernel
theorem dX11_init_52 : decode cX11_init 52 = .ok (.putfield 25, 3) := by decide +kernel
theorem dX11_init_55 : decode cX11_init 55 = .ok (.aload_n 0, 1) := by decide +kernel
theorem dX11_init_56 : decode cX11_init 56 = .ok (.bipush 13, 2) := by decide +kernel
theorem dX11_init_58 : decode cX11_init 58 = .ok (.newarray .long, 2) := by decide +kernel
theorem dX11_init_60 : decode cX11_init 60 = .ok (.putfield 29, 3) := by decide +kernel
theorem dX11_init_63 : decode cX11_init 63 = .ok (.aload_n 0, 1) := by decide +kernel
theorem dX11_init_64 : decode cX11_init 64 = .ok (.sipush 8192, 3) := by decide +kernel
theorem dX11_init_67 : decode cX11_init 67 = .ok (.newarray .int, 2) := by decide +kernel
theorem dX11_init_69 : decode cX11_init 69 = .ok (.putfield 32, 3) := by decide +kernel
theorem dX11_init_72 : decode cX11_init 72 = .ok (.aload_n 0, 1) := by decide +kernel
theorem dX11_init_73 : decode cX11_init 73 = .ok (.bipush 66, 2) := by decide +kernel
theorem dX11_init_75 : decode cX11_init 75 = .ok (.newarray .int, 2) := by decide +kernel
theorem dX11_init_77 : decode cX11_init 77 = .ok (.putfield 35, 3) := by decide +kernel
theorem dX11_init_80 : decode cX11_init 80 = .ok (.aload_n 0, 1) := by decide +kernel
theorem dX11_init_81 : decode cX11_init 81 = .ok (.sipush 200, 3) := by decide +kernel
theorem dX11_init_84 : decode cX11_init 84 = .ok (.newarray .int, 2) := by decide +kernel
theorem dX11_init_86 : decode cX11_init 86 = .ok (.putfield 38, 3) := by decide +kernel
theorem dX11_init_89 : decode cX11_init 89 = .ok (.aload_n 0, 1) := by decide +kernel
theorem dX11_init_90 : decode cX11_init 90 = .ok (.sipush 4096, 3) := by decide +kernel
theorem dX11_init_93 : decode cX11_init 93 = .ok (.newarray .long, 2) := by decide +kernel
theorem dX11_init_95 : decode cX11_init 95 = .ok (.putfield 41, 3) := by decide +kernel
theorem dX11_init_98 : decode cX11_init 98 = .ok (.aload_n 0, 1) := by decide +kernel
theorem dX11_init_99 : decode cX11_init 99 = .ok (.sipush 4096, 3) := by decide +kernel
theorem dX11_init_102 : decode cX11_init 102 = .ok (.newarray .long, 2) := by decide +kernel
theorem dX11_init_104 : decode cX11_init 104 = .ok (.putfield 44, 3) := by decide +kernel
theorem dX11_init_107 : decode cX11_init 107 = .ok (.aload_n 0, 1) := by decide +kernel
theorem dX11_init_108 : decode cX11_init 108 = .ok (.bipush 12, 2) := by decide +kernel
theorem dX11_init_110 : decode cX11_init 110 = .ok (.newarray .int, 2) := by decide +kernel
theorem dX11_init_112 : decode cX11_init 112 = .ok (.putfield 47, 3) := by decide +kernel
theorem dX11_init_115 : decode cX11_init 115 = .ok (.aload_n 0, 1) := by decide +kernel
theorem dX11_init_116 : decode cX11_init 116 = .ok (.bipush 96, 2) := by decide +kernel
theorem dX11_init_118 : decode cX11_init 118 = .ok (.newarray .int, 2) := by decide +kernel
theorem dX11_init_120 : decode cX11_init 120 = .ok (.putfield 50, 3) := by decide +kernel
theorem dX11_init_123 : decode cX11_init 123 = .ok (.aload_n 0, 1) := by decide +kernel
theorem dX11_init_124 : decode cX11_init 124 = .ok (.bipush 8, 2) := by decide +kernel
theorem dX11_init_126 : decode cX11_init 126 = .ok (.newarray .int, 2) := by decide +kernel
theorem dX11_init_128 : decode cX11_init 128 = .ok (.putfield 53, 3) := by decide +kernel
theorem dX11_init_131 : decode cX11_init 131 = .ok (.aload_n 0, 1) := by decide +kernel
theorem dX11_init_132 : decode cX11_init 132 = .ok (.sipush 400, 3) := by decide +kernel
theorem dX11_init_135 : decode cX11_init 135 = .ok (.newarray .int, 2) := by decide +kernel
theorem dX11_init_137 : decode cX11_init 137 = .ok (.putfield 56, 3) := by decide +kernel
theorem dX11_init_140 : decode cX11_init 140 = .ok (.aload_n 0, 1) := by decide +kernel
theorem dX11_init_141 : decode cX11_init 141 = .ok (.iconst 2, 1) := by decide +kernel
theorem dX11_init_142 : decode cX11_init 142 = .ok (.newarray .boolean, 2) := by decide +kernel
theorem dX11_init_144 : decode cX11_init 144 = .ok (.putfield 59, 3) := by decide +kernel
theorem dX11_init_147 : decode cX11_init 147 = .ok (.aload_n 0, 1) := by decide +kernel
theorem dX11_init_148 : decode cX11_init 148 = .ok (.iconst 1, 1) := by decide +kernel
theorem dX11_init_149 : decode cX11_init 149 = .ok (.putfield 63, 3) := by decide +kernel
theorem dX11_init_152 : decode cX11_init 152 = .ok (.aload_n 0, 1) := by decide +kernel
theorem dX11_init_153 : decode cX11_init 153 = .ok (.iconst 2, 1) := by decide +kernel
theorem dX11_init_154 : decode cX11_init 154 = .ok (.putfield 67, 3) := by decide +kernel
theorem dX11_init_157 : decode cX11_init 157 = .ok (.aload_n 0, 1) := by decide +kernel
theorem dX11_init_158 : decode cX11_init 158 = .ok (.iconst 0, 1) := by decide +kernel
theorem dX11_init_159 : decode cX11_init 159 = .ok (.invokevirtual 70, 3) := by decide +kernel
theorem dX11_init_162 : decode cX11_init 162 = .ok (.return_, 1) := by decide +kernel
theorem dX11_in_0 : decode cX11_in 0 = .ok (.lload_n 0, 1) := by decide +kernel
theorem dX11_in_1 : decode cX11_in 1 = .ok (.lload_n 2, 1) := by decide +kernel
theorem dX11_in_2 : decode cX11_in 2 = .ok (.lcmp, 1) := by decide +kernel
theorem dX11_in_3 : decode cX11_in 3 = .ok (.ifCond .lt 14, 3) := by decide +kernel
theorem dX11_in_6 : decode cX11_in 6 = .ok (.lload_n 0, 1) := by decide +kernel
theorem dX11_in_7 : decode cX11_in 7 = .ok (.lload 4, 2) := by decide +kernel
theorem dX11_in_9 : decode cX11_in 9 = .ok (.lcmp, 1) := by decide +kernel
theorem dX11_in_10 : decode cX11_in 10 = .ok (.ifCond .gt 7, 3) := by decide +kernel
theorem dX11_in_13 : decode cX11_in 13 = .ok (.iconst 1, 1) := by decide +kernel
theorem dX11_in_14 : decode cX11_in 14 = .ok (.goto 4, 3) := by decide +kernel
theorem dX11_in_17 : decode cX11_in 17 = .ok (.iconst 0, 1) := by decide +kernel
theorem dX11_in_18 : decode cX11_in 18 = .ok (.ireturn, 1) := by decide +kernel
theorem dX11_ones_0 : decode cX11_ones 0 = .ok (.iconst 0, 1) := by decide +kernel
theorem dX11_ones_1 : decode cX11_ones 1 = .ok (.istore_n 1, 1) := by decide +kernel
theorem dX11_ones_2 : decode cX11_ones 2 = .ok (.iconst 0, 1) := by decide +kernel
theorem dX11_ones_3 : decode cX11_ones 3 = .ok (.istore_n 2, 1) := by decide +kernel
theorem dX11_ones_4 : decode cX11_ones 4 = .ok (.iload_n 2, 1) := by decide +kernel
theorem dX11_ones_5 : decode cX11_ones 5 = .ok (.bipush 12, 2) := by decide +kernel
theorem dX11_ones_7 : decode cX11_ones 7 = .ok (.if_icmp .ge 17, 3) := by decide +kernel
theorem dX11_ones_10 : decode cX11_ones 10 = .ok (.iload_n 1, 1) := by decide +kernel
theorem dX11_ones_11 : decode cX11_ones 11 = .ok (.iload_n 0, 1) := by decide +kernel
theorem dX11_ones_12 : decode cX11_ones 12 = .ok (.iload_n 2, 1) := by decide +kernel
theorem dX11_ones_13 : decode cX11_ones 13 = .ok (.ishr, 1) := by decide +kernel
theorem dX11_ones_14 : decode cX11_ones 14 = .ok (.iconst 1, 1) := by decide +kernel
theorem dX11_ones_15 : decode cX11_ones 15 = .ok (.iand, 1) := by decide +kernel
theorem dX11_ones_16 : decode cX11_ones 16 = .ok (.iadd, 1) := by decide +kernel
theorem dX11_ones_17 : decode cX11_ones 17 = .ok (.istore_n 1, 1) := by decide +kernel
theorem dX11_ones_18 : decode cX11_ones 18 = .ok (.iinc 2 1, 3) := by decide +kernel
theorem dX11_ones_21 : decode cX11_ones 21 = .ok (.goto (-17), 3) := by decide +kernel
theorem dX11_ones_24 : decode cX11_ones 24 = .ok (.iload_n 1, 1) := by decide +kernel
theorem dX11_ones_25 : decode cX11_ones 25 = .ok (.ireturn, 1) := by decide +kernel
theorem dX11_isPart_0 : decode cX11_isPart 0 = .ok (.iload_n 0, 1) := by decide +kernel
theorem dX11_isPart_1 : decode cX11_isPart 1 = .ok (.i2l, 1) := by decide +kernel
theorem dX11_isPart_2 : decode cX11_isPart 2 = .ok (.lconst 0, 1) := by decide +kernel
theorem dX11_isPart_3 : decode cX11_isPart 3 = .ok (.lconst 1, 1) := by decide +kernel
theorem dX11_isPart_4 : decode cX11_isPart 4 = .ok (.invokestatic 74, 3) := by decide +kernel
theorem dX11_isPart_7 : decode cX11_isPart 7 = .ok (.ireturn, 1) := by decide +kernel
theorem dX11_lowest_0 : decode cX11_lowest 0 = .ok (.lload_n 0, 1) := by decide +kernel
theorem dX11_lowest_1 : decode cX11_lowest 1 = .ok (.lstore 5, 2) := by decide +kernel
theorem dX11_lowest_3 : decode cX11_lowest 3 = .ok (.lload_n 2, 1) := by decide +kernel
theorem dX11_lowest_4 : decode cX11_lowest 4 = .ok (.lstore 7, 2) := by decide +kernel
theorem dX11_lowest_6 : decode cX11_lowest 6 = .ok (.lload 7, 2) := by decide +kernel
theorem dX11_lowest_8 : decode cX11_lowest 8 = .ok (.lconst 0, 1) := by decide +kernel
theorem dX11_lowest_9 : decode cX11_lowest 9 = .ok (.lcmp, 1) := by decide +kernel
theorem dX11_lowest_10 : decode cX11_lowest 10 = .ok (.ifCond .eq 21, 3) := by decide +kernel
theorem dX11_lowest_13 : decode cX11_lowest 13 = .ok (.lload 5, 2) := by decide +kernel
theorem dX11_lowest_15 : decode cX11_lowest 15 = .ok (.lload 7, 2) := by decide +kernel
theorem dX11_lowest_17 : decode cX11_lowest 17 = .ok (.lrem, 1) := by decide +kernel
theorem dX11_lowest_18 : decode cX11_lowest 18 = .ok (.lstore 9, 2) := by decide +kernel
theorem dX11_lowest_20 : decode cX11_lowest 20 = .ok (.lload 7, 2) := by decide +kernel
theorem dX11_lowest_22 : decode cX11_lowest 22 = .ok (.lstore 5, 2) := by decide +kernel
theorem dX11_lowest_24 : decode cX11_lowest 24 = .ok (.lload 9, 2) := by decide +kernel
theorem dX11_lowest_26 : decode cX11_lowest 26 = .ok (.lstore 7, 2) := by decide +kernel
theorem dX11_lowest_28 : decode cX11_lowest 28 = .ok (.goto (-22), 3) := by decide +kernel
theorem dX11_lowest_31 : decode cX11_lowest 31 = .ok (.iload 4, 2) := by decide +kernel
theorem dX11_lowest_33 : decode cX11_lowest 33 = .ok (.ifCond .ne 10, 3) := by decide +kernel
theorem dX11_lowest_36 : decode cX11_lowest 36 = .ok (.lload_n 0, 1) := by decide +kernel
theorem dX11_lowest_37 : decode cX11_lowest 37 = .ok (.lload 5, 2) := by decide +kernel
theorem dX11_lowest_39 : decode cX11_lowest 39 = .ok (.ldiv, 1) := by decide +kernel
theorem dX11_lowest_40 : decode cX11_lowest 40 = .ok (.goto 7, 3) := by decide +kernel
theorem dX11_lowest_43 : decode cX11_lowest 43 = .ok (.lload_n 2, 1) := by decide +kernel
theorem dX11_lowest_44 : decode cX11_lowest 44 = .ok (.lload 5, 2) := by decide +kernel
theorem dX11_lowest_46 : decode cX11_lowest 46 = .ok (.ldiv, 1) := by decide +kernel
theorem dX11_lowest_47 : decode cX11_lowest 47 = .ok (.lreturn, 1) := by decide +kernel
theorem dX11_say_0 : decode cX11_say 0 = .ok (.iload_n 1, 1) := by decide +kernel
theorem dX11_say_1 : decode cX11_say 1 = .ok (.i2l, 1) := by decide +kernel
theorem dX11_say_2 : decode cX11_say 2 = .ok (.ldc2_w 78, 3) := by decide +kernel
theorem dX11_say_5 : decode cX11_say 5 = .ok (.ldc2_w 80, 3) := by decide +kernel
theorem dX11_say_8 : decode cX11_say 8 = .ok (.invokestatic 74, 3) := by decide +kernel
theorem dX11_say_11 : decode cX11_say 11 = .ok (.ifCond .ne 6, 3) := by decide +kernel
theorem dX11_say_14 : decode cX11_say 14 = .ok (.bipush (-2), 2) := by decide +kernel
theorem dX11_say_16 : decode cX11_say 16 = .ok (.ireturn, 1) := by decide +kernel
theorem dX11_say_17 : decode cX11_say 17 = .ok (.aload_n 0, 1) := by decide +kernel
theorem dX11_say_18 : decode cX11_say 18 = .ok (.getfield 82, 3) := by decide +kernel
theorem dX11_say_21 : decode cX11_say 21 = .ok (.bipush 30, 2) := by decide +kernel
theorem dX11_say_23 : decode cX11_say 23 = .ok (.if_icmp .ne 6, 3) := by decide +kernel
theorem dX11_say_26 : decode cX11_say 26 = .ok (.bipush (-4), 2) := by decide +kernel
theorem dX11_say_28 : decode cX11_say 28 = .ok (.ireturn, 1) := by decide +kernel
theorem dX11_say_29 : decode cX11_say 29 = .ok (.aload_n 0, 1) := by decide +kernel
theorem dX11_say_30 : decode cX11_say 30 = .ok (.getfield 7, 3) := by decide +kernel
theorem dX11_say_33 : decode cX11_say 33 = .ok (.aload_n 0, 1) := by decide +kernel
theorem dX11_say_34 : decode cX11_say 34 = .ok (.getfield 82, 3) := by decide +kernel
theorem dX11_say_37 : decode cX11_say 37 = .ok (.iload_n 1, 1) := by decide +kernel
theorem dX11_say_38 : decode cX11_say 38 = .ok (.iastore, 1) := by decide +kernel
theorem dX11_say_39 : decode cX11_say 39 = .ok (.aload_n 0, 1) := by decide +kernel
theorem dX11_say_40 : decode cX11_say 40 = .ok (.dup, 1) := by decide +kernel
theorem dX11_say_41 : decode cX11_say 41 = .ok (.getfield 82, 3) := by decide +kernel
theorem dX11_say_44 : decode cX11_say 44 = .ok (.iconst 1, 1) := by decide +kernel
theorem dX11_say_45 : decode cX11_say 45 = .ok (.iadd, 1) := by decide +kernel
theorem dX11_say_46 : decode cX11_say 46 = .ok (.putfield 82, 3) := by decide +kernel
theorem dX11_say_49 : decode cX11_say 49 = .ok (.aload_n 0, 1) := by decide +kernel
theorem dX11_say_50 : decode cX11_say 50 = .ok (.getfield 82, 3) := by decide +kernel
theorem dX11_say_53 : decode cX11_say 53 = .ok (.ireturn, 1) := by decide +kernel
theorem dX11_wipe_0 : decode cX11_wipe 0 = .ok (.aload_n 0, 1) := by decide +kernel
theorem dX11_wipe_1 : decode cX11_wipe 1 = .ok (.getfield 82, 3) := by decide +kernel
theorem dX11_wipe_4 : decode cX11_wipe 4 = .ok (.istore_n 1, 1) := by decide +kernel
theorem dX11_wipe_5 : decode cX11_wipe 5 = .ok (.aload_n 0, 1) := by decide +kernel
theorem dX11_wipe_6 : decode cX11_wipe 6 = .ok (.iconst 0, 1) := by decide +kernel
theorem dX11_wipe_7 : decode cX11_wipe 7 = .ok (.putfield 82, 3) := by decide +kernel
theorem dX11_wipe_10 : decode cX11_wipe 10 = .ok (.iload_n 1, 1) := by decide +kernel
theorem dX11_wipe_11 : decode cX11_wipe 11 = .ok (.ireturn, 1) := by decide +kernel
theorem dX11_fault_0 : decode cX11_fault 0 = .ok (.iconst 0, 1) := by decide +kernel
theorem dX11_fault_1 : decode cX11_fault 1 = .ok (.istore_n 1, 1) := by decide +kernel
theorem dX11_fault_2 : decode cX11_fault 2 = .ok (.iconst 0, 1) := by decide +kernel
theorem dX11_fault_3 : decode cX11_fault 3 = .ok (.istore_n 2, 1) := by decide +kernel
theorem dX11_fault_4 : decode cX11_fault 4 = .ok (.iconst 0, 1) := by decide +kernel
theorem dX11_fault_5 : decode cX11_fault 5 = .ok (.istore_n 3, 1) := by decide +kernel
theorem dX11_fault_6 : decode cX11_fault 6 = .ok (.iload_n 3, 1) := by decide +kernel
theorem dX11_fault_7 : decode cX11_fault 7 = .ok (.aload_n 0, 1) := by decide +kernel
theorem dX11_fault_8 : decode cX11_fault 8 = .ok (.getfield 82, 3) := by decide +kernel
theorem dX11_fault_11 : decode cX11_fault 11 = .ok (.if_icmp .ge 101, 3) := by decide +kernel
theorem dX11_fault_14 : decode cX11_fault 14 = .ok (.aload_n 0, 1) := by decide +kernel
theorem dX11_fault_15 : decode cX11_fault 15 = .ok (.getfield 7, 3) := by decide +kernel
theorem dX11_fault_18 : decode cX11_fault 18 = .ok (.iload_n 3, 1) := by decide +kernel
theorem dX11_fault_19 : decode cX11_fault 19 = .ok (.iaload, 1) := by decide +kernel
theorem dX11_fault_20 : decode cX11_fault 20 = .ok (.istore 4, 2) := by decide +kernel
theorem dX11_fault_22 : decode cX11_fault 22 = .ok (.iload_n 2, 1) := by decide +kernel
theorem dX11_fault_23 : decode cX11_fault 23 = .ok (.ifCond .ne 45, 3) := by decide +kernel
theorem dX11_fault_26 : decode cX11_fault 26 = .ok (.iload 4, 2) := by decide +kernel
theorem dX11_fault_28 : decode cX11_fault 28 = .ok (.bipush 111, 2) := by decide +kernel
theorem dX11_fault_30 : decode cX11_fault 30 = .ok (.if_icmp .ne 9, 3) := by decide +kernel
theorem dX11_fault_33 : decode cX11_fault 33 = .ok (.iload_n 1, 1) := by decide +kernel
theorem dX11_fault_34 : decode cX11_fault 34 = .ok (.bipush 12, 2) := by decide +kernel
theorem dX11_fault_36 : decode cX11_fault 36 = .ok (.if_icmp .lt 28, 3) := by decide +kernel
theorem dX11_fault_39 : decode cX11_fault 39 = .ok (.iload 4, 2) := by decide +kernel
theorem dX11_fault_41 : decode cX11_fault 41 = .ok (.bipush 45, 2) := by decide +kernel
theorem dX11_fault_43 : decode cX11_fault 43 = .ok (.if_icmp .eq 21, 3) := by decide +kernel
theorem dX11_fault_46 : decode cX11_fault 46 = .ok (.iload 4, 2) := by decide +kernel
theorem dX11_fault_48 : decode cX11_fault 48 = .ok (.bipush 124, 2) := by decide +kernel
theorem dX11_fault_50 : decode cX11_fault 50 = .ok (.if_icmp .eq 14, 3) := by decide +kernel
theorem dX11_fault_53 : decode cX11_fault 53 = .ok (.iload 4, 2) := by decide +kernel
theorem dX11_fault_55 : decode cX11_fault 55 = .ok (.bipush 64, 2) := by decide +kernel
theorem dX11_fault_57 : decode cX11_fault 57 = .ok (.if_icmp .ne 11, 3) := by decide +kernel
theorem dX11_fault_60 : decode cX11_fault 60 = .ok (.iload_n 1, 1) := by decide +kernel
theorem dX11_fault_61 : decode cX11_fault 61 = .ok (.ifCond .le 7, 3) := by decide +kernel
theorem dX11_fault_64 : decode cX11_fault 64 = .ok (.iconst 1, 1) := by decide +kernel
theorem dX11_fault_65 : decode cX11_fault 65 = .ok (.goto 4, 3) := by decide +kernel
theorem dX11_fault_68 : decode cX11_fault 68 = .ok (.iconst 0, 1) := by decide +kernel
theorem dX11_fault_69 : decode cX11_fault 69 = .ok (.istore 5, 2) := by decide +kernel
theorem dX11_fault_71 : decode cX11_fault 71 = .ok (.iload 5, 2) := by decide +kernel
theorem dX11_fault_73 : decode cX11_fault 73 = .ok (.ifCond .ne 5, 3) := by decide +kernel
theorem dX11_fault_76 : decode cX11_fault 76 = .ok (.iload_n 3, 1) := by decide +kernel
theorem dX11_fault_77 : decode cX11_fault 77 = .ok (.ireturn, 1) := by decide +kernel
theorem dX11_fault_78 : decode cX11_fault 78 = .ok (.iload_n 1, 1) := by decide +kernel
theorem dX11_fault_79 : decode cX11_fault 79 = .ok (.iload 4, 2) := by decide +kernel
theorem dX11_fault_81 : decode cX11_fault 81 = .ok (.bipush 111, 2) := by decide +kernel
theorem dX11_fault_83 : decode cX11_fault 83 = .ok (.if_icmp .ne 7, 3) := by decide +kernel
theorem dX11_fault_86 : decode cX11_fault 86 = .ok (.iconst 1, 1) := by decide +kernel
theorem dX11_fault_87 : decode cX11_fault 87 = .ok (.goto 4, 3) := by decide +kernel
theorem dX11_fault_90 : decode cX11_fault 90 = .ok (.iconst 0, 1) := by decide +kernel
theorem dX11_fault_91 : decode cX11_fault 91 = .ok (.iadd, 1) := by decide +kernel
theorem dX11_fault_92 : decode cX11_fault 92 = .ok (.istore_n 1, 1) := by decide +kernel
theorem dX11_fault_93 : decode cX11_fault 93 = .ok (.iload 4, 2) := by decide +kernel
theorem dX11_fault_95 : decode cX11_fault 95 = .ok (.bipush 64, 2) := by decide +kernel
theorem dX11_fault_97 : decode cX11_fault 97 = .ok (.if_icmp .ne 7, 3) := by decide +kernel
theorem dX11_fault_100 : decode cX11_fault 100 = .ok (.iconst 1, 1) := by decide +kernel
theorem dX11_fault_101 : decode cX11_fault 101 = .ok (.goto 4, 3) := by decide +kernel
theorem dX11_fault_104 : decode cX11_fault 104 = .ok (.iconst 0, 1) := by decide +kernel
theorem dX11_fault_105 : decode cX11_fault 105 = .ok (.istore_n 2, 1) := by decide +kernel
theorem dX11_fault_106 : decode cX11_fault 106 = .ok (.iinc 3 1, 3) := by decide +kernel
theorem dX11_fault_109 : decode cX11_fault 109 = .ok (.goto (-103), 3) := by decide +kernel
theorem dX11_fault_112 : decode cX11_fault 112 = .ok (.iload_n 1, 1) := by decide +kernel
theorem dX11_fault_113 : decode cX11_fault 113 = .ok (.ifCond .le 8, 3) := by decide +kernel
theorem dX11_fault_116 : decode cX11_fault 116 = .ok (.bipush (-6), 2) := by decide +kernel
theorem dX11_fault_118 : decode cX11_fault 118 = .ok (.goto 7, 3) := by decide +kernel
theorem dX11_fault_121 : decode cX11_fault 121 = .ok (.aload_n 0, 1) := by decide +kernel
theorem dX11_fault_122 : decode cX11_fault 122 = .ok (.getfield 82, 3) := by decide +kernel
theorem dX11_fault_125 : decode cX11_fault 125 = .ok (.ireturn, 1) := by decide +kernel
theorem dX11_room_0 : decode cX11_room 0 = .ok (.aload_n 0, 1) := by decide +kernel
theorem dX11_room_1 : decode cX11_room 1 = .ok (.invokevirtual 85, 3) := by decide +kernel
theorem dX11_room_4 : decode cX11_room 4 = .ok (.ifCond .lt 6, 3) := by decide +kernel
theorem dX11_room_7 : decode cX11_room 7 = .ok (.bipush (-5), 2) := by decide +kernel
theorem dX11_room_9 : decode cX11_room 9 = .ok (.ireturn, 1) := by decide +kernel
theorem dX11_room_10 : decode cX11_room 10 = .ok (.aload_n 0, 1) := by decide +kernel
theorem dX11_room_11 : decode cX11_room 11 = .ok (.iconst 0, 1) := by decide +kernel
theorem dX11_room_12 : decode cX11_room 12 = .ok (.putfield 63, 3) := by decide +kernel
theorem dX11_room_15 : decode cX11_room 15 = .ok (.iconst 0, 1) := by decide +kernel
theorem dX11_room_16 : decode cX11_room 16 = .ok (.istore_n 1, 1) := by decide +kernel
theorem dX11_room_17 : decode cX11_room 17 = .ok (.iconst 0, 1) := by decide +kernel
theorem dX11_room_18 : decode cX11_room 18 = .ok (.istore_n 2, 1) := by decide +kernel
theorem dX11_room_19 : decode cX11_room 19 = .ok (.iconst 0, 1) := by decide +kernel
theorem dX11_room_20 : decode cX11_room 20 = .ok (.istore_n 3, 1) := by decide +kernel
theorem dX11_room_21 : decode cX11_room 21 = .ok (.iconst 0, 1) := by decide +kernel
theorem dX11_room_22 : decode cX11_room 22 = .ok (.istore 4, 2) := by decide +kernel
theorem dX11_room_24 : decode cX11_room 24 = .ok (.iconst 0, 1) := by decide +kernel
theorem dX11_room_25 : decode cX11_room 25 = .ok (.istore 5, 2) := by decide +kernel
theorem dX11_room_27 : decode cX11_room 27 = .ok (.iconst 0, 1) := by decide +kernel
theorem dX11_room_28 : decode cX11_room 28 = .ok (.istore 6, 2) := by decide +kernel
theorem dX11_room_30 : decode cX11_room 30 = .ok (.iload 6, 2) := by decide +kernel
theorem dX11_room_32 : decode cX11_room 32 = .ok (.aload_n 0, 1) := by decide +kernel
theorem dX11_room_33 : decode cX11_room 33 = .ok (.getfield 82, 3) := by decide +kernel
theorem dX11_room_36 : decode cX11_room 36 = .ok (.if_icmp .ge 107, 3) := by decide +kernel
theorem dX11_room_39 : decode cX11_room 39 = .ok (.aload_n 0, 1) := by decide +kernel
theorem dX11_room_40 : decode cX11_room 40 = .ok (.getfield 7, 3) := by decide +kernel
theorem dX11_room_43 : decode cX11_room 43 = .ok (.iload 6, 2) := by decide +kernel
theorem dX11_room_45 : decode cX11_room 45 = .ok (.iaload, 1) := by decide +kernel
theorem dX11_room_46 : decode cX11_room 46 = .ok (.istore 7, 2) := by decide +kernel
theorem dX11_room_48 : decode cX11_room 48 = .ok (.iload 7, 2) := by decide +kernel
theorem dX11_room_50 : decode cX11_room 50 = .ok (.bipush 111, 2) := by decide +kernel
theorem dX11_room_52 : decode cX11_room 52 = .ok (.if_icmp .ne 57, 3) := by decide +kernel
theorem dX11_room_55 : decode cX11_room 55 = .ok (.aload_n 0, 1) := by decide +kernel
theorem dX11_room_56 : decode cX11_room 56 = .ok (.getfield 63, 3) := by decide +kernel
theorem dX11_room_59 : decode cX11_room 59 = .ok (.ifCond .ne 11, 3) := by decide +kernel
theorem dX11_room_62 : decode cX11_room 62 = .ok (.iload_n 1, 1) := by decide +kernel
theorem dX11_room_63 : decode cX11_room 63 = .ok (.istore_n 3, 1) := by decide +kernel
theorem dX11_room_64 : decode cX11_room 64 = .ok (.iload_n 2, 1) := by decide +kernel
theorem dX11_room_65 : decode cX11_room 65 = .ok (.istore 4, 2) := by decide +kernel
theorem dX11_room_67 : decode cX11_room 67 = .ok (.goto 25, 3) := by decide +kernel
theorem dX11_room_70 : decode cX11_room 70 = .ok (.aload_n 0, 1) := by decide +kernel
theorem dX11_room_71 : decode cX11_room 71 = .ok (.getfield 13, 3) := by decide +kernel
theorem dX11_room_74 : decode cX11_room 74 = .ok (.aload_n 0, 1) := by decide +kernel
theorem dX11_room_75 : decode cX11_room 75 = .ok (.getfield 63, 3) := by decide +kernel
theorem dX11_room_78 : decode cX11_room 78 = .ok (.iconst 1, 1) := by decide +kernel
theorem dX11_room_79 : decode cX11_room 79 = .ok (.isub, 1) := by decide +kernel
theorem dX11_room_80 : decode cX11_room 80 = .ok (.iload_n 2, 1) := by decide +kernel
theorem dX11_room_81 : decode cX11_room 81 = .ok (.ifCond .eq 7, 3) := by decide +kernel
theorem dX11_room_84 : decode cX11_room 84 = .ok (.iconst 0, 1) := by decide +kernel
theorem dX11_room_85 : decode cX11_room 85 = .ok (.goto 6, 3) := by decide +kernel
theorem dX11_room_88 : decode cX11_room 88 = .ok (.iconst 1, 1) := by decide +kernel
theorem dX11_room_89 : decode cX11_room 89 = .ok (.iload_n 1, 1) := by decide +kernel
theorem dX11_room_90 : decode cX11_room 90 = .ok (.iadd, 1) := by decide +kernel
theorem dX11_room_91 : decode cX11_room 91 = .ok (.iastore, 1) := by decide +kernel
theorem dX11_room_92 : decode cX11_room 92 = .ok (.aload_n 0, 1) := by decide +kernel
theorem dX11_room_93 : decode cX11_room 93 = .ok (.dup, 1) := by decide +kernel
theorem dX11_room_94 : decode cX11_room 94 = .ok (.getfield 63, 3) := by decide +kernel
