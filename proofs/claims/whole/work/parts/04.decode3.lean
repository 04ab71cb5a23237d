theorem dX11_rests_72 : decode cX11_rests 72 = .ok (.lload 6, 2) := by decide +kernel
theorem dX11_rests_74 : decode cX11_rests 74 = .ok (.lload_n 3, 1) := by decide +kernel
theorem dX11_rests_75 : decode cX11_rests 75 = .ok (.lcmp, 1) := by decide +kernel
theorem dX11_rests_76 : decode cX11_rests 76 = .ok (.ifCond .ne 21, 3) := by decide +kernel
theorem dX11_rests_79 : decode cX11_rests 79 = .ok (.iload 5, 2) := by decide +kernel
theorem dX11_rests_81 : decode cX11_rests 81 = .ok (.invokestatic 144, 3) := by decide +kernel
theorem dX11_rests_84 : decode cX11_rests 84 = .ok (.iload_n 2, 1) := by decide +kernel
theorem dX11_rests_85 : decode cX11_rests 85 = .ok (.invokestatic 144, 3) := by decide +kernel
theorem dX11_rests_88 : decode cX11_rests 88 = .ok (.if_icmp .ge 9, 3) := by decide +kernel
theorem dX11_rests_91 : decode cX11_rests 91 = .ok (.iload 5, 2) := by decide +kernel
theorem dX11_rests_93 : decode cX11_rests 93 = .ok (.istore_n 2, 1) := by decide +kernel
theorem dX11_rests_94 : decode cX11_rests 94 = .ok (.lload 6, 2) := by decide +kernel
theorem dX11_rests_96 : decode cX11_rests 96 = .ok (.lstore_n 3, 1) := by decide +kernel
theorem dX11_rests_97 : decode cX11_rests 97 = .ok (.iinc 5 1, 3) := by decide +kernel
theorem dX11_rests_100 : decode cX11_rests 100 = .ok (.goto (-77), 3) := by decide +kernel
theorem dX11_rests_103 : decode cX11_rests 103 = .ok (.aload_n 0, 1) := by decide +kernel
theorem dX11_rests_104 : decode cX11_rests 104 = .ok (.iconst 0, 1) := by decide +kernel
theorem dX11_rests_105 : decode cX11_rests 105 = .ok (.invokevirtual 70, 3) := by decide +kernel
theorem dX11_rests_108 : decode cX11_rests 108 = .ok (.iload_n 2, 1) := by decide +kernel
theorem dX11_rests_109 : decode cX11_rests 109 = .ok (.ireturn, 1) := by decide +kernel
theorem dX11_passMinutes_0 : decode cX11_passMinutes 0 = .ok (.iconst 1, 1) := by decide +kernel
theorem dX11_passMinutes_1 : decode cX11_passMinutes 1 = .ok (.aload_n 0, 1) := by decide +kernel
theorem dX11_passMinutes_2 : decode cX11_passMinutes 2 = .ok (.getfield 63, 3) := by decide +kernel
theorem dX11_passMinutes_5 : decode cX11_passMinutes 5 = .ok (.ishl, 1) := by decide +kernel
theorem dX11_passMinutes_6 : decode cX11_passMinutes 6 = .ok (.istore 4, 2) := by decide +kernel
theorem dX11_passMinutes_8 : decode cX11_passMinutes 8 = .ok (.iconst 0, 1) := by decide +kernel
theorem dX11_passMinutes_9 : decode cX11_passMinutes 9 = .ok (.istore 5, 2) := by decide +kernel
theorem dX11_passMinutes_11 : decode cX11_passMinutes 11 = .ok (.iload 5, 2) := by decide +kernel
theorem dX11_passMinutes_13 : decode cX11_passMinutes 13 = .ok (.iload 4, 2) := by decide +kernel
theorem dX11_passMinutes_15 : decode cX11_passMinutes 15 = .ok (.if_icmp .ge 27, 3) := by decide +kernel
theorem dX11_passMinutes_18 : decode cX11_passMinutes 18 = .ok (.aload_n 0, 1) := by decide +kernel
theorem dX11_passMinutes_19 : decode cX11_passMinutes 19 = .ok (.getfield 41, 3) := by decide +kernel
theorem dX11_passMinutes_22 : decode cX11_passMinutes 22 = .ok (.iload 5, 2) := by decide +kernel
theorem dX11_passMinutes_24 : decode cX11_passMinutes 24 = .ok (.iload 5, 2) := by decide +kernel
theorem dX11_passMinutes_26 : decode cX11_passMinutes 26 = .ok (.iload_n 1, 1) := by decide +kernel
theorem dX11_passMinutes_27 : decode cX11_passMinutes 27 = .ok (.if_icmp .ne 7, 3) := by decide +kernel
theorem dX11_passMinutes_30 : decode cX11_passMinutes 30 = .ok (.lconst 1, 1) := by decide +kernel
theorem dX11_passMinutes_31 : decode cX11_passMinutes 31 = .ok (.goto 4, 3) := by decide +kernel
theorem dX11_passMinutes_34 : decode cX11_passMinutes 34 = .ok (.lconst 0, 1) := by decide +kernel
theorem dX11_passMinutes_35 : decode cX11_passMinutes 35 = .ok (.lastore, 1) := by decide +kernel
theorem dX11_passMinutes_36 : decode cX11_passMinutes 36 = .ok (.iinc 5 1, 3) := by decide +kernel
theorem dX11_passMinutes_39 : decode cX11_passMinutes 39 = .ok (.goto (-28), 3) := by decide +kernel
theorem dX11_passMinutes_42 : decode cX11_passMinutes 42 = .ok (.aload_n 0, 1) := by decide +kernel
theorem dX11_passMinutes_43 : decode cX11_passMinutes 43 = .ok (.lconst 0, 1) := by decide +kernel
theorem dX11_passMinutes_44 : decode cX11_passMinutes 44 = .ok (.putfield 197, 3) := by decide +kernel
theorem dX11_passMinutes_47 : decode cX11_passMinutes 47 = .ok (.aload_n 0, 1) := by decide +kernel
theorem dX11_passMinutes_48 : decode cX11_passMinutes 48 = .ok (.lconst 1, 1) := by decide +kernel
theorem dX11_passMinutes_49 : decode cX11_passMinutes 49 = .ok (.putfield 200, 3) := by decide +kernel
theorem dX11_passMinutes_52 : decode cX11_passMinutes 52 = .ok (.iconst 0, 1) := by decide +kernel
theorem dX11_passMinutes_53 : decode cX11_passMinutes 53 = .ok (.istore 5, 2) := by decide +kernel
theorem dX11_passMinutes_55 : decode cX11_passMinutes 55 = .ok (.iload 5, 2) := by decide +kernel
theorem dX11_passMinutes_57 : decode cX11_passMinutes 57 = .ok (.iload_n 3, 1) := by decide +kernel
theorem dX11_passMinutes_58 : decode cX11_passMinutes 58 = .ok (.if_icmp .ge 122, 3) := by decide +kernel
theorem dX11_passMinutes_61 : decode cX11_passMinutes 61 = .ok (.iconst 0, 1) := by decide +kernel
theorem dX11_passMinutes_62 : decode cX11_passMinutes 62 = .ok (.istore 6, 2) := by decide +kernel
theorem dX11_passMinutes_64 : decode cX11_passMinutes 64 = .ok (.iload 6, 2) := by decide +kernel
theorem dX11_passMinutes_66 : decode cX11_passMinutes 66 = .ok (.iload 4, 2) := by decide +kernel
theorem dX11_passMinutes_68 : decode cX11_passMinutes 68 = .ok (.if_icmp .ge 17, 3) := by decide +kernel
theorem dX11_passMinutes_71 : decode cX11_passMinutes 71 = .ok (.aload_n 0, 1) := by decide +kernel
theorem dX11_passMinutes_72 : decode cX11_passMinutes 72 = .ok (.getfield 44, 3) := by decide +kernel
theorem dX11_passMinutes_75 : decode cX11_passMinutes 75 = .ok (.iload 6, 2) := by decide +kernel
theorem dX11_passMinutes_77 : decode cX11_passMinutes 77 = .ok (.lconst 0, 1) := by decide +kernel
theorem dX11_passMinutes_78 : decode cX11_passMinutes 78 = .ok (.lastore, 1) := by decide +kernel
theorem dX11_passMinutes_79 : decode cX11_passMinutes 79 = .ok (.iinc 6 1, 3) := by decide +kernel
theorem dX11_passMinutes_82 : decode cX11_passMinutes 82 = .ok (.goto (-18), 3) := by decide +kernel
theorem dX11_passMinutes_85 : decode cX11_passMinutes 85 = .ok (.aload_n 0, 1) := by decide +kernel
theorem dX11_passMinutes_86 : decode cX11_passMinutes 86 = .ok (.dup, 1) := by decide +kernel
theorem dX11_passMinutes_87 : decode cX11_passMinutes 87 = .ok (.getfield 197, 3) := by decide +kernel
theorem dX11_passMinutes_90 : decode cX11_passMinutes 90 = .ok (.ldc2_w 203, 3) := by decide +kernel
theorem dX11_passMinutes_93 : decode cX11_passMinutes 93 = .ok (.lmul, 1) := by decide +kernel
theorem dX11_passMinutes_94 : decode cX11_passMinutes 94 = .ok (.putfield 197, 3) := by decide +kernel
theorem dX11_passMinutes_97 : decode cX11_passMinutes 97 = .ok (.iconst 0, 1) := by decide +kernel
theorem dX11_passMinutes_98 : decode cX11_passMinutes 98 = .ok (.istore 6, 2) := by decide +kernel
theorem dX11_passMinutes_100 : decode cX11_passMinutes 100 = .ok (.iload 6, 2) := by decide +kernel
theorem dX11_passMinutes_102 : decode cX11_passMinutes 102 = .ok (.iload 4, 2) := by decide +kernel
theorem dX11_passMinutes_104 : decode cX11_passMinutes 104 = .ok (.if_icmp .ge 28, 3) := by decide +kernel
theorem dX11_passMinutes_107 : decode cX11_passMinutes 107 = .ok (.aload_n 0, 1) := by decide +kernel
theorem dX11_passMinutes_108 : decode cX11_passMinutes 108 = .ok (.getfield 41, 3) := by decide +kernel
theorem dX11_passMinutes_111 : decode cX11_passMinutes 111 = .ok (.iload 6, 2) := by decide +kernel
theorem dX11_passMinutes_113 : decode cX11_passMinutes 113 = .ok (.laload, 1) := by decide +kernel
theorem dX11_passMinutes_114 : decode cX11_passMinutes 114 = .ok (.lconst 0, 1) := by decide +kernel
theorem dX11_passMinutes_115 : decode cX11_passMinutes 115 = .ok (.lcmp, 1) := by decide +kernel
theorem dX11_passMinutes_116 : decode cX11_passMinutes 116 = .ok (.ifCond .le 10, 3) := by decide +kernel
theorem dX11_passMinutes_119 : decode cX11_passMinutes 119 = .ok (.aload_n 0, 1) := by decide +kernel
theorem dX11_passMinutes_120 : decode cX11_passMinutes 120 = .ok (.iload 6, 2) := by decide +kernel
theorem dX11_passMinutes_122 : decode cX11_passMinutes 122 = .ok (.iload_n 2, 1) := by decide +kernel
theorem dX11_passMinutes_123 : decode cX11_passMinutes 123 = .ok (.invokevirtual 205, 3) := by decide +kernel
theorem dX11_passMinutes_126 : decode cX11_passMinutes 126 = .ok (.iinc 6 1, 3) := by decide +kernel
theorem dX11_passMinutes_129 : decode cX11_passMinutes 129 = .ok (.goto (-29), 3) := by decide +kernel
theorem dX11_passMinutes_132 : decode cX11_passMinutes 132 = .ok (.iconst 0, 1) := by decide +kernel
theorem dX11_passMinutes_133 : decode cX11_passMinutes 133 = .ok (.istore 6, 2) := by decide +kernel
theorem dX11_passMinutes_135 : decode cX11_passMinutes 135 = .ok (.iload 6, 2) := by decide +kernel
theorem dX11_passMinutes_137 : decode cX11_passMinutes 137 = .ok (.iload 4, 2) := by decide +kernel
theorem dX11_passMinutes_139 : decode cX11_passMinutes 139 = .ok (.if_icmp .ge 23, 3) := by decide +kernel
theorem dX11_passMinutes_142 : decode cX11_passMinutes 142 = .ok (.aload_n 0, 1) := by decide +kernel
theorem dX11_passMinutes_143 : decode cX11_passMinutes 143 = .ok (.getfield 41, 3) := by decide +kernel
theorem dX11_passMinutes_146 : decode cX11_passMinutes 146 = .ok (.iload 6, 2) := by decide +kernel
theorem dX11_passMinutes_148 : decode cX11_passMinutes 148 = .ok (.aload_n 0, 1) := by decide +kernel
theorem dX11_passMinutes_149 : decode cX11_passMinutes 149 = .ok (.getfield 44, 3) := by decide +kernel
theorem dX11_passMinutes_152 : decode cX11_passMinutes 152 = .ok (.iload 6, 2) := by decide +kernel
theorem dX11_passMinutes_154 : decode cX11_passMinutes 154 = .ok (.laload, 1) := by decide +kernel
theorem dX11_passMinutes_155 : decode cX11_passMinutes 155 = .ok (.lastore, 1) := by decide +kernel
theorem dX11_passMinutes_156 : decode cX11_passMinutes 156 = .ok (.iinc 6 1, 3) := by decide +kernel
theorem dX11_passMinutes_159 : decode cX11_passMinutes 159 = .ok (.goto (-24), 3) := by decide +kernel
theorem dX11_passMinutes_162 : decode cX11_passMinutes 162 = .ok (.aload_n 0, 1) := by decide +kernel
theorem dX11_passMinutes_163 : decode cX11_passMinutes 163 = .ok (.dup, 1) := by decide +kernel
theorem dX11_passMinutes_164 : decode cX11_passMinutes 164 = .ok (.getfield 200, 3) := by decide +kernel
theorem dX11_passMinutes_167 : decode cX11_passMinutes 167 = .ok (.ldc2_w 203, 3) := by decide +kernel
theorem dX11_passMinutes_170 : decode cX11_passMinutes 170 = .ok (.lmul, 1) := by decide +kernel
theorem dX11_passMinutes_171 : decode cX11_passMinutes 171 = .ok (.putfield 200, 3) := by decide +kernel
theorem dX11_passMinutes_174 : decode cX11_passMinutes 174 = .ok (.iinc 5 1, 3) := by decide +kernel
theorem dX11_passMinutes_177 : decode cX11_passMinutes 177 = .ok (.goto (-122), 3) := by decide +kernel
theorem dX11_passMinutes_180 : decode cX11_passMinutes 180 = .ok (.return_, 1) := by decide +kernel
theorem dX11_passOne_0 : decode cX11_passOne 0 = .ok (.aload_n 0, 1) := by decide +kernel
theorem dX11_passOne_1 : decode cX11_passOne 1 = .ok (.iload_n 1, 1) := by decide +kernel
theorem dX11_passOne_2 : decode cX11_passOne 2 = .ok (.iload_n 2, 1) := by decide +kernel
theorem dX11_passOne_3 : decode cX11_passOne 3 = .ok (.invokevirtual 122, 3) := by decide +kernel
theorem dX11_passOne_6 : decode cX11_passOne 6 = .ok (.istore_n 3, 1) := by decide +kernel
theorem dX11_passOne_7 : decode cX11_passOne 7 = .ok (.iload_n 3, 1) := by decide +kernel
theorem dX11_passOne_8 : decode cX11_passOne 8 = .ok (.ifCond .ge 22, 3) := by decide +kernel
theorem dX11_passOne_11 : decode cX11_passOne 11 = .ok (.aload_n 0, 1) := by decide +kernel
theorem dX11_passOne_12 : decode cX11_passOne 12 = .ok (.dup, 1) := by decide +kernel
theorem dX11_passOne_13 : decode cX11_passOne 13 = .ok (.getfield 197, 3) := by decide +kernel
theorem dX11_passOne_16 : decode cX11_passOne 16 = .ok (.aload_n 0, 1) := by decide +kernel
theorem dX11_passOne_17 : decode cX11_passOne 17 = .ok (.getfield 41, 3) := by decide +kernel
theorem dX11_passOne_20 : decode cX11_passOne 20 = .ok (.iload_n 1, 1) := by decide +kernel
theorem dX11_passOne_21 : decode cX11_passOne 21 = .ok (.laload, 1) := by decide +kernel
theorem dX11_passOne_22 : decode cX11_passOne 22 = .ok (.ldc2_w 208, 3) := by decide +kernel
theorem dX11_passOne_25 : decode cX11_passOne 25 = .ok (.lmul, 1) := by decide +kernel
theorem dX11_passOne_26 : decode cX11_passOne 26 = .ok (.ladd, 1) := by decide +kernel
theorem dX11_passOne_27 : decode cX11_passOne 27 = .ok (.putfield 197, 3) := by decide +kernel
theorem dX11_passOne_30 : decode cX11_passOne 30 = .ok (.aload_n 0, 1) := by decide +kernel
theorem dX11_passOne_31 : decode cX11_passOne 31 = .ok (.getfield 44, 3) := by decide +kernel
theorem dX11_passOne_34 : decode cX11_passOne 34 = .ok (.iload_n 3, 1) := by decide +kernel
theorem dX11_passOne_35 : decode cX11_passOne 35 = .ok (.ifCond .ge 7, 3) := by decide +kernel
theorem dX11_passOne_38 : decode cX11_passOne 38 = .ok (.iload_n 1, 1) := by decide +kernel
theorem dX11_passOne_39 : decode cX11_passOne 39 = .ok (.goto 8, 3) := by decide +kernel
theorem dX11_passOne_42 : decode cX11_passOne 42 = .ok (.iload_n 1, 1) := by decide +kernel
theorem dX11_passOne_43 : decode cX11_passOne 43 = .ok (.iconst 1, 1) := by decide +kernel
theorem dX11_passOne_44 : decode cX11_passOne 44 = .ok (.iload_n 3, 1) := by decide +kernel
theorem dX11_passOne_45 : decode cX11_passOne 45 = .ok (.ishl, 1) := by decide +kernel
theorem dX11_passOne_46 : decode cX11_passOne 46 = .ok (.ior, 1) := by decide +kernel
theorem dX11_passOne_47 : decode cX11_passOne 47 = .ok (.dup2, 1) := by decide +kernel
theorem dX11_passOne_48 : decode cX11_passOne 48 = .ok (.laload, 1) := by decide +kernel
theorem dX11_passOne_49 : decode cX11_passOne 49 = .ok (.aload_n 0, 1) := by decide +kernel
theorem dX11_passOne_50 : decode cX11_passOne 50 = .ok (.getfield 41, 3) := by decide +kernel
theorem dX11_passOne_53 : decode cX11_passOne 53 = .ok (.iload_n 1, 1) := by decide +kernel
theorem dX11_passOne_54 : decode cX11_passOne 54 = .ok (.laload, 1) := by decide +kernel
theorem dX11_passOne_55 : decode cX11_passOne 55 = .ok (.ldc2_w 208, 3) := by decide +kernel
theorem dX11_passOne_58 : decode cX11_passOne 58 = .ok (.lmul, 1) := by decide +kernel
theorem dX11_passOne_59 : decode cX11_passOne 59 = .ok (.ladd, 1) := by decide +kernel
theorem dX11_passOne_60 : decode cX11_passOne 60 = .ok (.lastore, 1) := by decide +kernel
theorem dX11_passOne_61 : decode cX11_passOne 61 = .ok (.iload_n 1, 1) := by decide +kernel
theorem dX11_passOne_62 : decode cX11_passOne 62 = .ok (.invokestatic 144, 3) := by decide +kernel
theorem dX11_passOne_65 : decode cX11_passOne 65 = .ok (.istore 4, 2) := by decide +kernel
theorem dX11_passOne_67 : decode cX11_passOne 67 = .ok (.iload 4, 2) := by decide +kernel
theorem dX11_passOne_69 : decode cX11_passOne 69 = .ok (.ifCond .ne 22, 3) := by decide +kernel
theorem dX11_passOne_72 : decode cX11_passOne 72 = .ok (.aload_n 0, 1) := by decide +kernel
theorem dX11_passOne_73 : decode cX11_passOne 73 = .ok (.getfield 44, 3) := by decide +kernel
theorem dX11_passOne_76 : decode cX11_passOne 76 = .ok (.iconst 0, 1) := by decide +kernel
theorem dX11_passOne_77 : decode cX11_passOne 77 = .ok (.dup2, 1) := by decide +kernel
theorem dX11_passOne_78 : decode cX11_passOne 78 = .ok (.laload, 1) := by decide +kernel
theorem dX11_passOne_79 : decode cX11_passOne 79 = .ok (.aload_n 0, 1) := by decide +kernel
theorem dX11_passOne_80 : decode cX11_passOne 80 = .ok (.getfield 41, 3) := by decide +kernel
theorem dX11_passOne_83 : decode cX11_passOne 83 = .ok (.iload_n 1, 1) := by decide +kernel
theorem dX11_passOne_84 : decode cX11_passOne 84 = .ok (.laload, 1) := by decide +kernel
theorem dX11_passOne_85 : decode cX11_passOne 85 = .ok (.ldc2_w 208, 3) := by decide +kernel
theorem dX11_passOne_88 : decode cX11_passOne 88 = .ok (.lmul, 1) := by decide +kernel
theorem dX11_passOne_89 : decode cX11_passOne 89 = .ok (.ladd, 1) := by decide +kernel
theorem dX11_passOne_90 : decode cX11_passOne 90 = .ok (.lastore, 1) := by decide +kernel
theorem dX11_passOne_91 : decode cX11_passOne 91 = .ok (.iconst 0, 1) := by decide +kernel
theorem dX11_passOne_92 : decode cX11_passOne 92 = .ok (.istore 5, 2) := by decide +kernel
theorem dX11_passOne_94 : decode cX11_passOne 94 = .ok (.iload 5, 2) := by decide +kernel
theorem dX11_passOne_96 : decode cX11_passOne 96 = .ok (.aload_n 0, 1) := by decide +kernel
theorem dX11_passOne_97 : decode cX11_passOne 97 = .ok (.getfield 63, 3) := by decide +kernel
theorem dX11_passOne_100 : decode cX11_passOne 100 = .ok (.if_icmp .ge 49, 3) := by decide +kernel
theorem dX11_passOne_103 : decode cX11_passOne 103 = .ok (.iload_n 1, 1) := by decide +kernel
theorem dX11_passOne_104 : decode cX11_passOne 104 = .ok (.iload 5, 2) := by decide +kernel
theorem dX11_passOne_106 : decode cX11_passOne 106 = .ok (.ishr, 1) := by decide +kernel
theorem dX11_passOne_107 : decode cX11_passOne 107 = .ok (.iconst 1, 1) := by decide +kernel
theorem dX11_passOne_108 : decode cX11_passOne 108 = .ok (.iand, 1) := by decide +kernel
theorem dX11_passOne_109 : decode cX11_passOne 109 = .ok (.iconst 1, 1) := by decide +kernel
theorem dX11_passOne_110 : decode cX11_passOne 110 = .ok (.if_icmp .ne 33, 3) := by decide +kernel
theorem dX11_passOne_113 : decode cX11_passOne 113 = .ok (.aload_n 0, 1) := by decide +kernel
theorem dX11_passOne_114 : decode cX11_passOne 114 = .ok (.getfield 44, 3) := by decide +kernel
theorem dX11_passOne_117 : decode cX11_passOne 117 = .ok (.iload_n 1, 1) := by decide +kernel
theorem dX11_passOne_118 : decode cX11_passOne 118 = .ok (.iconst 1, 1) := by decide +kernel
theorem dX11_passOne_119 : decode cX11_passOne 119 = .ok (.iload 5, 2) := by decide +kernel
theorem dX11_passOne_121 : decode cX11_passOne 121 = .ok (.ishl, 1) := by decide +kernel
theorem dX11_passOne_122 : decode cX11_passOne 122 = .ok (.iconst (-1), 1) := by decide +kernel
theorem dX11_passOne_123 : decode cX11_passOne 123 = .ok (.ixor, 1) := by decide +kernel
theorem dX11_passOne_124 : decode cX11_passOne 124 = .ok (.iand, 1) := by decide +kernel
theorem dX11_passOne_125 : decode cX11_passOne 125 = .ok (.dup2, 1) := by decide +kernel
theorem dX11_passOne_126 : decode cX11_passOne 126 = .ok (.laload, 1) := by decide +kernel
theorem dX11_passOne_127 : decode cX11_passOne 127 = .ok (.aload_n 0, 1) := by decide +kernel
theorem dX11_passOne_128 : decode cX11_passOne 128 = .ok (.getfield 41, 3) := by decide +kernel
theorem dX11_passOne_131 : decode cX11_passOne 131 = .ok (.iload_n 1, 1) := by decide +kernel
theorem dX11_passOne_132 : decode cX11_passOne 132 = .ok (.laload, 1) := by decide +kernel
theorem dX11_passOne_133 : decode cX11_passOne 133 = .ok (.ldc2_w 208, 3) := by decide +kernel
theorem dX11_passOne_136 : decode cX11_passOne 136 = .ok (.iload 4, 2) := by decide +kernel
theorem dX11_passOne_138 : decode cX11_passOne 138 = .ok (.i2l, 1) := by decide +kernel
theorem dX11_passOne_139 : decode cX11_passOne 139 = .ok (.ldiv, 1) := by decide +kernel
theorem dX11_passOne_140 : decode cX11_passOne 140 = .ok (.lmul, 1) := by decide +kernel
theorem dX11_passOne_141 : decode cX11_passOne 141 = .ok (.ladd, 1) := by decide +kernel
theorem dX11_passOne_142 : decode cX11_passOne 142 = .ok (.lastore, 1) := by decide +kernel
theorem dX11_passOne_143 : decode cX11_passOne 143 = .ok (.iinc 5 1, 3) := by decide +kernel
theorem dX11_passOne_146 : decode cX11_passOne 146 = .ok (.goto (-52), 3) := by decide +kernel
theorem dX11_passOne_149 : decode cX11_passOne 149 = .ok (.return_, 1) := by decide +kernel
theorem dX11_refuseMinutes_0 : decode cX11_refuseMinutes 0 = .ok (.aload_n 0, 1) := by decide +kernel
theorem dX11_refuseMinutes_1 : decode cX11_refuseMinutes 1 = .ok (.iload_n 1, 1) := by decide +kernel
theorem dX11_refuseMinutes_2 : decode cX11_refuseMinutes 2 = .ok (.invokevirtual 127, 3) := by decide +kernel
theorem dX11_refuseMinutes_5 : decode cX11_refuseMinutes 5 = .ok (.ifCond .eq 43, 3) := by decide +kernel
theorem dX11_refuseMinutes_8 : decode cX11_refuseMinutes 8 = .ok (.iload_n 2, 1) := by decide +kernel
theorem dX11_refuseMinutes_9 : decode cX11_refuseMinutes 9 = .ok (.invokestatic 133, 3) := by decide +kernel
theorem dX11_refuseMinutes_12 : decode cX11_refuseMinutes 12 = .ok (.ifCond .eq 36, 3) := by decide +kernel
theorem dX11_refuseMinutes_15 : decode cX11_refuseMinutes 15 = .ok (.iload_n 3, 1) := by decide +kernel
theorem dX11_refuseMinutes_16 : decode cX11_refuseMinutes 16 = .ok (.i2l, 1) := by decide +kernel
theorem dX11_refuseMinutes_17 : decode cX11_refuseMinutes 17 = .ok (.lconst 1, 1) := by decide +kernel
theorem dX11_refuseMinutes_18 : decode cX11_refuseMinutes 18 = .ok (.ldc2_w 139, 3) := by decide +kernel
theorem dX11_refuseMinutes_21 : decode cX11_refuseMinutes 21 = .ok (.invokestatic 74, 3) := by decide +kernel
theorem dX11_refuseMinutes_24 : decode cX11_refuseMinutes 24 = .ok (.ifCond .eq 24, 3) := by decide +kernel
theorem dX11_refuseMinutes_27 : decode cX11_refuseMinutes 27 = .ok (.iload 4, 2) := by decide +kernel
theorem dX11_refuseMinutes_29 : decode cX11_refuseMinutes 29 = .ok (.i2l, 1) := by decide +kernel
theorem dX11_refuseMinutes_30 : decode cX11_refuseMinutes 30 = .ok (.lconst 0, 1) := by decide +kernel
theorem dX11_refuseMinutes_31 : decode cX11_refuseMinutes 31 = .ok (.ldc2_w 147, 3) := by decide +kernel
theorem dX11_refuseMinutes_34 : decode cX11_refuseMinutes 34 = .ok (.invokestatic 74, 3) := by decide +kernel
theorem dX11_refuseMinutes_37 : decode cX11_refuseMinutes 37 = .ok (.ifCond .eq 11, 3) := by decide +kernel
theorem dX11_refuseMinutes_40 : decode cX11_refuseMinutes 40 = .ok (.iload 5, 2) := by decide +kernel
theorem dX11_refuseMinutes_42 : decode cX11_refuseMinutes 42 = .ok (.invokestatic 153, 3) := by decide +kernel
theorem dX11_refuseMinutes_45 : decode cX11_refuseMinutes 45 = .ok (.ifCond .ne 6, 3) := by decide +kernel
theorem dX11_refuseMinutes_48 : decode cX11_refuseMinutes 48 = .ok (.bipush (-2), 2) := by decide +kernel
theorem dX11_refuseMinutes_50 : decode cX11_refuseMinutes 50 = .ok (.ireturn, 1) := by decide +kernel
theorem dX11_refuseMinutes_51 : decode cX11_refuseMinutes 51 = .ok (.aload_n 0, 1) := by decide +kernel
theorem dX11_refuseMinutes_52 : decode cX11_refuseMinutes 52 = .ok (.iload_n 1, 1) := by decide +kernel
theorem dX11_refuseMinutes_53 : decode cX11_refuseMinutes 53 = .ok (.invokevirtual 130, 3) := by decide +kernel
theorem dX11_refuseMinutes_56 : decode cX11_refuseMinutes 56 = .ok (.ifCond .eq 7, 3) := by decide +kernel
theorem dX11_refuseMinutes_59 : decode cX11_refuseMinutes 59 = .ok (.iconst 0, 1) := by decide +kernel
theorem dX11_refuseMinutes_60 : decode cX11_refuseMinutes 60 = .ok (.goto 5, 3) := by decide +kernel
theorem dX11_refuseMinutes_63 : decode cX11_refuseMinutes 63 = .ok (.bipush (-3), 2) := by decide +kernel
theorem dX11_refuseMinutes_65 : decode cX11_refuseMinutes 65 = .ok (.ireturn, 1) := by decide +kernel
theorem dX11_minutes_0 : decode cX11_minutes 0 = .ok (.aload_n 0, 1) := by decide +kernel
theorem dX11_minutes_1 : decode cX11_minutes 1 = .ok (.iload_n 1, 1) := by decide +kernel
theorem dX11_minutes_2 : decode cX11_minutes 2 = .ok (.iload_n 2, 1) := by decide +kernel
theorem dX11_minutes_3 : decode cX11_minutes 3 = .ok (.iload_n 3, 1) := by decide +kernel
theorem dX11_minutes_4 : decode cX11_minutes 4 = .ok (.iload 4, 2) := by decide +kernel
theorem dX11_minutes_6 : decode cX11_minutes 6 = .ok (.iload 5, 2) := by decide +kernel
theorem dX11_minutes_8 : decode cX11_minutes 8 = .ok (.invokevirtual 210, 3) := by decide +kernel
theorem dX11_minutes_11 : decode cX11_minutes 11 = .ok (.istore 6, 2) := by decide +kernel
theorem dX11_minutes_13 : decode cX11_minutes 13 = .ok (.iload 6, 2) := by decide +kernel
theorem dX11_minutes_15 : decode cX11_minutes 15 = .ok (.ifCond .ge 11, 3) := by decide +kernel
theorem dX11_minutes_18 : decode cX11_minutes 18 = .ok (.ldc2_w 214, 3) := by decide +kernel
theorem dX11_minutes_21 : decode cX11_minutes 21 = .ok (.iload 6, 2) := by decide +kernel
theorem dX11_minutes_23 : decode cX11_minutes 23 = .ok (.i2l, 1) := by decide +kernel
theorem dX11_minutes_24 : decode cX11_minutes 24 = .ok (.ladd, 1) := by decide +kernel
theorem dX11_minutes_25 : decode cX11_minutes 25 = .ok (.lreturn, 1) := by decide +kernel
theorem dX11_minutes_26 : decode cX11_minutes 26 = .ok (.aload_n 0, 1) := by decide +kernel
theorem dX11_minutes_27 : decode cX11_minutes 27 = .ok (.iload_n 1, 1) := by decide +kernel
theorem dX11_minutes_28 : decode cX11_minutes 28 = .ok (.iload_n 2, 1) := by decide +kernel
theorem dX11_minutes_29 : decode cX11_minutes 29 = .ok (.iload_n 3, 1) := by decide +kernel
theorem dX11_minutes_30 : decode cX11_minutes 30 = .ok (.invokevirtual 216, 3) := by decide +kernel
theorem dX11_minutes_33 : decode cX11_minutes 33 = .ok (.lconst 0, 1) := by decide +kernel
theorem dX11_minutes_34 : decode cX11_minutes 34 = .ok (.lstore 7, 2) := by decide +kernel
theorem dX11_minutes_36 : decode cX11_minutes 36 = .ok (.iconst 0, 1) := by decide +kernel
theorem dX11_minutes_37 : decode cX11_minutes 37 = .ok (.istore 9, 2) := by decide +kernel
theorem dX11_minutes_39 : decode cX11_minutes 39 = .ok (.iload 9, 2) := by decide +kernel
theorem dX11_minutes_41 : decode cX11_minutes 41 = .ok (.iconst 1, 1) := by decide +kernel
theorem dX11_minutes_42 : decode cX11_minutes 42 = .ok (.aload_n 0, 1) := by decide +kernel
theorem dX11_minutes_43 : decode cX11_minutes 43 = .ok (.getfield 63, 3) := by decide +kernel
theorem dX11_minutes_46 : decode cX11_minutes 46 = .ok (.ishl, 1) := by decide +kernel
theorem dX11_minutes_47 : decode cX11_minutes 47 = .ok (.if_icmp .ge 35, 3) := by decide +kernel
theorem dX11_minutes_50 : decode cX11_minutes 50 = .ok (.lload 7, 2) := by decide +kernel
theorem dX11_minutes_52 : decode cX11_minutes 52 = .ok (.iload 9, 2) := by decide +kernel
theorem dX11_minutes_54 : decode cX11_minutes 54 = .ok (.invokestatic 144, 3) := by decide +kernel
theorem dX11_minutes_57 : decode cX11_minutes 57 = .ok (.iload 4, 2) := by decide +kernel
theorem dX11_minutes_59 : decode cX11_minutes 59 = .ok (.if_icmp .ne 13, 3) := by decide +kernel
theorem dX11_minutes_62 : decode cX11_minutes 62 = .ok (.aload_n 0, 1) := by decide +kernel
theorem dX11_minutes_63 : decode cX11_minutes 63 = .ok (.getfield 41, 3) := by decide +kernel
theorem dX11_minutes_66 : decode cX11_minutes 66 = .ok (.iload 9, 2) := by decide +kernel
theorem dX11_minutes_68 : decode cX11_minutes 68 = .ok (.laload, 1) := by decide +kernel
theorem dX11_minutes_69 : decode cX11_minutes 69 = .ok (.goto 4, 3) := by decide +kernel
theorem dX11_minutes_72 : decode cX11_minutes 72 = .ok (.lconst 0, 1) := by decide +kernel
theorem dX11_minutes_73 : decode cX11_minutes 73 = .ok (.ladd, 1) := by decide +kernel
theorem dX11_minutes_74 : decode cX11_minutes 74 = .ok (.lstore 7, 2) := by decide +kernel
theorem dX11_minutes_76 : decode cX11_minutes 76 = .ok (.iinc 9 1, 3) := by decide +kernel
theorem dX11_minutes_79 : decode cX11_minutes 79 = .ok (.goto (-40), 3) := by decide +kernel
theorem dX11_minutes_82 : decode cX11_minutes 82 = .ok (.lload 7, 2) := by decide +kernel
theorem dX11_minutes_84 : decode cX11_minutes 84 = .ok (.aload_n 0, 1) := by decide +kernel
theorem dX11_minutes_85 : decode cX11_minutes 85 = .ok (.getfield 200, 3) := by decide +kernel
theorem dX11_minutes_88 : decode cX11_minutes 88 = .ok (.iload 5, 2) := by decide +kernel
theorem dX11_minutes_90 : decode cX11_minutes 90 = .ok (.invokestatic 165, 3) := by decide +kernel
theorem dX11_minutes_93 : decode cX11_minutes 93 = .ok (.lreturn, 1) := by decide +kernel
theorem dX11_away_0 : decode cX11_away 0 = .ok (.aload_n 0, 1) := by decide +kernel
theorem dX11_away_1 : decode cX11_away 1 = .ok (.iload_n 1, 1) := by decide +kernel
theorem dX11_away_2 : decode cX11_away 2 = .ok (.iload_n 2, 1) := by decide +kernel
theorem dX11_away_3 : decode cX11_away 3 = .ok (.iload_n 3, 1) := by decide +kernel
theorem dX11_away_4 : decode cX11_away 4 = .ok (.iconst 0, 1) := by decide +kernel
theorem dX11_away_5 : decode cX11_away 5 = .ok (.iload 4, 2) := by decide +kernel
theorem dX11_away_7 : decode cX11_away 7 = .ok (.invokevirtual 210, 3) := by decide +kernel
theorem dX11_away_10 : decode cX11_away 10 = .ok (.istore 5, 2) := by decide +kernel
theorem dX11_away_12 : decode cX11_away 12 = .ok (.iload 5, 2) := by decide +kernel
theorem dX11_away_14 : decode cX11_away 14 = .ok (.ifCond .ge 11, 3) := by decide +kernel
theorem dX11_away_17 : decode cX11_away 17 = .ok (.ldc2_w 214, 3) := by decide +kernel
theorem dX11_away_20 : decode cX11_away 20 = .ok (.iload 5, 2) := by decide +kernel
theorem dX11_away_22 : decode cX11_away 22 = .ok (.i2l, 1) := by decide +kernel
theorem dX11_away_23 : decode cX11_away 23 = .ok (.ladd, 1) := by decide +kernel
theorem dX11_away_24 : decode cX11_away 24 = .ok (.lreturn, 1) := by decide +kernel
theorem dX11_away_25 : decode cX11_away 25 = .ok (.aload_n 0, 1) := by decide +kernel
theorem dX11_away_26 : decode cX11_away 26 = .ok (.iload_n 1, 1) := by decide +kernel
theorem dX11_away_27 : decode cX11_away 27 = .ok (.iload_n 2, 1) := by decide +kernel
theorem dX11_away_28 : decode cX11_away 28 = .ok (.iload_n 3, 1) := by decide +kernel
theorem dX11_away_29 : decode cX11_away 29 = .ok (.invokevirtual 216, 3) := by decide +kernel
theorem dX11_away_32 : decode cX11_away 32 = .ok (.aload_n 0, 1) := by decide +kernel
theorem dX11_away_33 : decode cX11_away 33 = .ok (.getfield 197, 3) := by decide +kernel
theorem dX11_away_36 : decode cX11_away 36 = .ok (.aload_n 0, 1) := by decide +kernel
theorem dX11_away_37 : decode cX11_away 37 = .ok (.getfield 200, 3) := by decide +kernel
theorem dX11_away_40 : decode cX11_away 40 = .ok (.iload 4, 2) := by decide +kernel
theorem dX11_away_42 : decode cX11_away 42 = .ok (.invokestatic 165, 3) := by decide +kernel
theorem dX11_away_45 : decode cX11_away 45 = .ok (.lreturn, 1) := by decide +kernel
theorem dX11_come_0 : decode cX11_come 0 = .ok (.iload_n 1, 1) := by decide +kernel
theorem dX11_come_1 : decode cX11_come 1 = .ok (.invokestatic 133, 3) := by decide +kernel
theorem dX11_come_4 : decode cX11_come 4 = .ok (.ifCond .ne 6, 3) := by decide +kernel
theorem dX11_come_7 : decode cX11_come 7 = .ok (.bipush (-2), 2) := by decide +kernel
theorem dX11_come_9 : decode cX11_come 9 = .ok (.ireturn, 1) := by decide +kernel
theorem dX11_come_10 : decode cX11_come 10 = .ok (.aload_n 0, 1) := by decide +kernel
theorem dX11_come_11 : decode cX11_come 11 = .ok (.getfield 219, 3) := by decide +kernel
theorem dX11_come_14 : decode cX11_come 14 = .ok (.bipush 12, 2) := by decide +kernel
theorem dX11_come_16 : decode cX11_come 16 = .ok (.if_icmp .ne 6, 3) := by decide +kernel
theorem dX11_come_19 : decode cX11_come 19 = .ok (.bipush (-4), 2) := by decide +kernel
theorem dX11_come_21 : decode cX11_come 21 = .ok (.ireturn, 1) := by decide +kernel
theorem dX11_come_22 : decode cX11_come 22 = .ok (.aload_n 0, 1) := by decide +kernel
theorem dX11_come_23 : decode cX11_come 23 = .ok (.getfield 47, 3) := by decide +kernel
theorem dX11_come_26 : decode cX11_come 26 = .ok (.aload_n 0, 1) := by decide +kernel
theorem dX11_come_27 : decode cX11_come 27 = .ok (.getfield 219, 3) := by decide +kernel
theorem dX11_come_30 : decode cX11_come 30 = .ok (.iload_n 1, 1) := by decide +kernel
theorem dX11_come_31 : decode cX11_come 31 = .ok (.iastore, 1) := by decide +kernel
theorem dX11_come_32 : decode cX11_come 32 = .ok (.aload_n 0, 1) := by decide +kernel
theorem dX11_come_33 : decode cX11_come 33 = .ok (.dup, 1) := by decide +kernel
theorem dX11_come_34 : decode cX11_come 34 = .ok (.getfield 219, 3) := by decide +kernel
theorem dX11_come_37 : decode cX11_come 37 = .ok (.iconst 1, 1) := by decide +kernel
theorem dX11_come_38 : decode cX11_come 38 = .ok (.iadd, 1) := by decide +kernel
theorem dX11_come_39 : decode cX11_come 39 = .ok (.putfield 219, 3) := by decide +kernel
theorem dX11_come_42 : decode cX11_come 42 = .ok (.aload_n 0, 1) := by decide +kernel
theorem dX11_come_43 : decode cX11_come 43 = .ok (.getfield 219, 3) := by decide +kernel
theorem dX11_come_46 : decode cX11_come 46 = .ok (.iconst 1, 1) := by decide +kernel
theorem dX11_come_47 : decode cX11_come 47 = .ok (.isub, 1) := by decide +kernel
theorem dX11_come_48 : decode cX11_come 48 = .ok (.ireturn, 1) := by decide +kernel
theorem dX11_forget_0 : decode cX11_forget 0 = .ok (.aload_n 0, 1) := by decide +kernel
theorem dX11_forget_1 : decode cX11_forget 1 = .ok (.getfield 219, 3) := by decide +kernel
theorem dX11_forget_4 : decode cX11_forget 4 = .ok (.istore_n 1, 1) := by decide +kernel
theorem dX11_forget_5 : decode cX11_forget 5 = .ok (.aload_n 0, 1) := by decide +kernel
theorem dX11_forget_6 : decode cX11_forget 6 = .ok (.iconst 0, 1) := by decide +kernel
theorem dX11_forget_7 : decode cX11_forget 7 = .ok (.putfield 219, 3) := by decide +kernel
theorem dX11_forget_10 : decode cX11_forget 10 = .ok (.iload_n 1, 1) := by decide +kernel
theorem dX11_forget_11 : decode cX11_forget 11 = .ok (.ireturn, 1) := by decide +kernel
theorem dX11_sits_0 : decode cX11_sits 0 = .ok (.iload_n 1, 1) := by decide +kernel
theorem dX11_sits_1 : decode cX11_sits 1 = .ok (.i2l, 1) := by decide +kernel
theorem dX11_sits_2 : decode cX11_sits 2 = .ok (.lconst 0, 1) := by decide +kernel
theorem dX11_sits_3 : decode cX11_sits 3 = .ok (.aload_n 0, 1) := by decide +kernel
theorem dX11_sits_4 : decode cX11_sits 4 = .ok (.getfield 219, 3) := by decide +kernel
theorem dX11_sits_7 : decode cX11_sits 7 = .ok (.iconst 1, 1) := by decide +kernel
theorem dX11_sits_8 : decode cX11_sits 8 = .ok (.isub, 1) := by decide +kernel
theorem dX11_sits_9 : decode cX11_sits 9 = .ok (.i2l, 1) := by decide +kernel
theorem dX11_sits_10 : decode cX11_sits 10 = .ok (.invokestatic 74, 3) := by decide +kernel
theorem dX11_sits_13 : decode cX11_sits 13 = .ok (.ifCond .ne 5, 3) := by decide +kernel
theorem dX11_sits_16 : decode cX11_sits 16 = .ok (.iconst (-1), 1) := by decide +kernel
theorem dX11_sits_17 : decode cX11_sits 17 = .ok (.ireturn, 1) := by decide +kernel
theorem dX11_sits_18 : decode cX11_sits 18 = .ok (.iconst 0, 1) := by decide +kernel
theorem dX11_sits_19 : decode cX11_sits 19 = .ok (.istore_n 2, 1) := by decide +kernel
theorem dX11_sits_20 : decode cX11_sits 20 = .ok (.bipush (-6), 2) := by decide +kernel
theorem dX11_sits_22 : decode cX11_sits 22 = .ok (.istore_n 3, 1) := by decide +kernel
theorem dX11_sits_23 : decode cX11_sits 23 = .ok (.iconst 0, 1) := by decide +kernel
theorem dX11_sits_24 : decode cX11_sits 24 = .ok (.istore 4, 2) := by decide +kernel
theorem dX11_sits_26 : decode cX11_sits 26 = .ok (.iload 4, 2) := by decide +kernel
theorem dX11_sits_28 : decode cX11_sits 28 = .ok (.iload_n 1, 1) := by decide +kernel
theorem dX11_sits_29 : decode cX11_sits 29 = .ok (.if_icmp .gt 36, 3) := by decide +kernel
theorem dX11_sits_32 : decode cX11_sits 32 = .ok (.aload_n 0, 1) := by decide +kernel
theorem dX11_sits_33 : decode cX11_sits 33 = .ok (.iload_n 2, 1) := by decide +kernel
theorem dX11_sits_34 : decode cX11_sits 34 = .ok (.aload_n 0, 1) := by decide +kernel
theorem dX11_sits_35 : decode cX11_sits 35 = .ok (.getfield 47, 3) := by decide +kernel
theorem dX11_sits_38 : decode cX11_sits 38 = .ok (.iload 4, 2) := by decide +kernel
theorem dX11_sits_40 : decode cX11_sits 40 = .ok (.iaload, 1) := by decide +kernel
theorem dX11_sits_41 : decode cX11_sits 41 = .ok (.invokevirtual 122, 3) := by decide +kernel
theorem dX11_sits_44 : decode cX11_sits 44 = .ok (.istore_n 3, 1) := by decide +kernel
theorem dX11_sits_45 : decode cX11_sits 45 = .ok (.iload_n 2, 1) := by decide +kernel
theorem dX11_sits_46 : decode cX11_sits 46 = .ok (.iload_n 3, 1) := by decide +kernel
theorem dX11_sits_47 : decode cX11_sits 47 = .ok (.ifCond .ge 7, 3) := by decide +kernel
theorem dX11_sits_50 : decode cX11_sits 50 = .ok (.iconst 0, 1) := by decide +kernel
theorem dX11_sits_51 : decode cX11_sits 51 = .ok (.goto 6, 3) := by decide +kernel
theorem dX11_sits_54 : decode cX11_sits 54 = .ok (.iconst 1, 1) := by decide +kernel
theorem dX11_sits_55 : decode cX11_sits 55 = .ok (.iload_n 3, 1) := by decide +kernel
theorem dX11_sits_56 : decode cX11_sits 56 = .ok (.ishl, 1) := by decide +kernel
theorem dX11_sits_57 : decode cX11_sits 57 = .ok (.ior, 1) := by decide +kernel
theorem dX11_sits_58 : decode cX11_sits 58 = .ok (.istore_n 2, 1) := by decide +kernel
theorem dX11_sits_59 : decode cX11_sits 59 = .ok (.iinc 4 1, 3) := by decide +kernel
theorem dX11_sits_62 : decode cX11_sits 62 = .ok (.goto (-36), 3) := by decide +kernel
theorem dX11_sits_65 : decode cX11_sits 65 = .ok (.iload_n 3, 1) := by decide +kernel
theorem dX11_sits_66 : decode cX11_sits 66 = .ok (.ireturn, 1) := by decide +kernel
theorem dX11_begin_0 : decode cX11_begin 0 = .ok (.aload_n 0, 1) := by decide +kernel
theorem dX11_begin_1 : decode cX11_begin 1 = .ok (.getfield 89, 3) := by decide +kernel
theorem dX11_begin_4 : decode cX11_begin 4 = .ok (.bipush 8, 2) := by decide +kernel
theorem dX11_begin_6 : decode cX11_begin 6 = .ok (.if_icmp .ne 6, 3) := by decide +kernel
theorem dX11_begin_9 : decode cX11_begin 9 = .ok (.bipush (-4), 2) := by decide +kernel
theorem dX11_begin_11 : decode cX11_begin 11 = .ok (.ireturn, 1) := by decide +kernel
theorem dX11_begin_12 : decode cX11_begin 12 = .ok (.aload_n 0, 1) := by decide +kernel
theorem dX11_begin_13 : decode cX11_begin 13 = .ok (.getfield 53, 3) := by decide +kernel
theorem dX11_begin_16 : decode cX11_begin 16 = .ok (.aload_n 0, 1) := by decide +kernel
theorem dX11_begin_17 : decode cX11_begin 17 = .ok (.getfield 89, 3) := by decide +kernel
theorem dX11_begin_20 : decode cX11_begin 20 = .ok (.iconst 0, 1) := by decide +kernel
theorem dX11_begin_21 : decode cX11_begin 21 = .ok (.iastore, 1) := by decide +kernel
theorem dX11_begin_22 : decode cX11_begin 22 = .ok (.aload_n 0, 1) := by decide +kernel
theorem dX11_begin_23 : decode cX11_begin 23 = .ok (.dup, 1) := by decide +kernel
theorem dX11_begin_24 : decode cX11_begin 24 = .ok (.getfield 89, 3) := by decide +kernel
theorem dX11_begin_27 : decode cX11_begin 27 = .ok (.iconst 1, 1) := by decide +kernel
theorem dX11_begin_28 : decode cX11_begin 28 = .ok (.iadd, 1) := by decide +kernel
theorem dX11_begin_29 : decode cX11_begin 29 = .ok (.putfield 89, 3) := by decide +kernel
theorem dX11_begin_32 : decode cX11_begin 32 = .ok (.aload_n 0, 1) := by decide +kernel
theorem dX11_begin_33 : decode cX11_begin 33 = .ok (.getfield 89, 3) := by decide +kernel
theorem dX11_begin_36 : decode cX11_begin 36 = .ok (.iconst 1, 1) := by decide +kernel
theorem dX11_begin_37 : decode cX11_begin 37 = .ok (.isub, 1) := by decide +kernel
theorem dX11_begin_38 : decode cX11_begin 38 = .ok (.ireturn, 1) := by decide +kernel
theorem dX11_seenSet_0 : decode cX11_seenSet 0 = .ok (.iconst 0, 1) := by decide +kernel
theorem dX11_seenSet_1 : decode cX11_seenSet 1 = .ok (.istore_n 3, 1) := by decide +kernel
theorem dX11_seenSet_2 : decode cX11_seenSet 2 = .ok (.iconst 0, 1) := by decide +kernel
theorem dX11_seenSet_3 : decode cX11_seenSet 3 = .ok (.istore 4, 2) := by decide +kernel
theorem dX11_seenSet_5 : decode cX11_seenSet 5 = .ok (.iload 4, 2) := by decide +kernel
theorem dX11_seenSet_7 : decode cX11_seenSet 7 = .ok (.iload_n 2, 1) := by decide +kernel
theorem dX11_seenSet_8 : decode cX11_seenSet 8 = .ok (.if_icmp .ge 26, 3) := by decide +kernel
theorem dX11_seenSet_11 : decode cX11_seenSet 11 = .ok (.iload_n 3, 1) := by decide +kernel
theorem dX11_seenSet_12 : decode cX11_seenSet 12 = .ok (.iconst 1, 1) := by decide +kernel
theorem dX11_seenSet_13 : decode cX11_seenSet 13 = .ok (.aload_n 0, 1) := by decide +kernel
theorem dX11_seenSet_14 : decode cX11_seenSet 14 = .ok (.getfield 50, 3) := by decide +kernel
theorem dX11_seenSet_17 : decode cX11_seenSet 17 = .ok (.bipush 12, 2) := by decide +kernel
theorem dX11_seenSet_19 : decode cX11_seenSet 19 = .ok (.iload_n 1, 1) := by decide +kernel
theorem dX11_seenSet_20 : decode cX11_seenSet 20 = .ok (.imul, 1) := by decide +kernel
theorem dX11_seenSet_21 : decode cX11_seenSet 21 = .ok (.iload 4, 2) := by decide +kernel
theorem dX11_seenSet_23 : decode cX11_seenSet 23 = .ok (.iadd, 1) := by decide +kernel
theorem dX11_seenSet_24 : decode cX11_seenSet 24 = .ok (.iaload, 1) := by decide +kernel
theorem dX11_seenSet_25 : decode cX11_seenSet 25 = .ok (.ishl, 1) := by decide +kernel
theorem dX11_seenSet_26 : decode cX11_seenSet 26 = .ok (.ior, 1) := by decide +kernel
theorem dX11_seenSet_27 : decode cX11_seenSet 27 = .ok (.istore_n 3, 1) := by decide +kernel
theorem dX11_seenSet_28 : decode cX11_seenSet 28 = .ok (.iinc 4 1, 3) := by decide +kernel
theorem dX11_seenSet_31 : decode cX11_seenSet 31 = .ok (.goto (-26), 3) := by decide +kernel
theorem dX11_seenSet_34 : decode cX11_seenSet 34 = .ok (.iload_n 3, 1) := by decide +kernel
theorem dX11_seenSet_35 : decode cX11_seenSet 35 = .ok (.ireturn, 1) := by decide +kernel
theorem dX11_see_0 : decode cX11_see 0 = .ok (.aload_n 0, 1) := by decide +kernel
theorem dX11_see_1 : decode cX11_see 1 = .ok (.iload_n 1, 1) := by decide +kernel
theorem dX11_see_2 : decode cX11_see 2 = .ok (.invokevirtual 100, 3) := by decide +kernel
theorem dX11_see_5 : decode cX11_see 5 = .ok (.ifCond .ne 5, 3) := by decide +kernel
theorem dX11_see_8 : decode cX11_see 8 = .ok (.iconst (-1), 1) := by decide +kernel
theorem dX11_see_9 : decode cX11_see 9 = .ok (.ireturn, 1) := by decide +kernel
theorem dX11_see_10 : decode cX11_see 10 = .ok (.aload_n 0, 1) := by decide +kernel
theorem dX11_see_11 : decode cX11_see 11 = .ok (.getfield 89, 3) := by decide +kernel
theorem dX11_see_14 : decode cX11_see 14 = .ok (.ifCond .ne 6, 3) := by decide +kernel
theorem dX11_see_17 : decode cX11_see 17 = .ok (.bipush (-3), 2) := by decide +kernel
theorem dX11_see_19 : decode cX11_see 19 = .ok (.ireturn, 1) := by decide +kernel
theorem dX11_see_20 : decode cX11_see 20 = .ok (.aload_n 0, 1) := by decide +kernel
theorem dX11_see_21 : decode cX11_see 21 = .ok (.getfield 89, 3) := by decide +kernel
theorem dX11_see_24 : decode cX11_see 24 = .ok (.iconst 1, 1) := by decide +kernel
theorem dX11_see_25 : decode cX11_see 25 = .ok (.isub, 1) := by decide +kernel
theorem dX11_see_26 : decode cX11_see 26 = .ok (.istore_n 2, 1) := by decide +kernel
theorem dX11_see_27 : decode cX11_see 27 = .ok (.aload_n 0, 1) := by decide +kernel
theorem dX11_see_28 : decode cX11_see 28 = .ok (.aload_n 0, 1) := by decide +kernel
theorem dX11_see_29 : decode cX11_see 29 = .ok (.iload_n 2, 1) := by decide +kernel
theorem dX11_see_30 : decode cX11_see 30 = .ok (.aload_n 0, 1) := by decide +kernel
theorem dX11_see_31 : decode cX11_see 31 = .ok (.getfield 53, 3) := by decide +kernel
theorem dX11_see_34 : decode cX11_see 34 = .ok (.iload_n 2, 1) := by decide +kernel
theorem dX11_see_35 : decode cX11_see 35 = .ok (.iaload, 1) := by decide +kernel
theorem dX11_see_36 : decode cX11_see 36 = .ok (.invokevirtual 222, 3) := by decide +kernel
theorem dX11_see_39 : decode cX11_see 39 = .ok (.invokevirtual 115, 3) := by decide +kernel
theorem dX11_see_42 : decode cX11_see 42 = .ok (.iload_n 1, 1) := by decide +kernel
theorem dX11_see_43 : decode cX11_see 43 = .ok (.ishr, 1) := by decide +kernel
theorem dX11_see_44 : decode cX11_see 44 = .ok (.iconst 1, 1) := by decide +kernel
theorem dX11_see_45 : decode cX11_see 45 = .ok (.iand, 1) := by decide +kernel
theorem dX11_see_46 : decode cX11_see 46 = .ok (.ifCond .ne 6, 3) := by decide +kernel
theorem dX11_see_49 : decode cX11_see 49 = .ok (.bipush (-5), 2) := by decide +kernel
theorem dX11_see_51 : decode cX11_see 51 = .ok (.ireturn, 1) := by decide +kernel
theorem dX11_see_52 : decode cX11_see 52 = .ok (.aload_n 0, 1) := by decide +kernel
theorem dX11_see_53 : decode cX11_see 53 = .ok (.getfield 50, 3) := by decide +kernel
theorem dX11_see_56 : decode cX11_see 56 = .ok (.bipush 12, 2) := by decide +kernel
theorem dX11_see_58 : decode cX11_see 58 = .ok (.iload_n 2, 1) := by decide +kernel
theorem dX11_see_59 : decode cX11_see 59 = .ok (.imul, 1) := by decide +kernel
theorem dX11_see_60 : decode cX11_see 60 = .ok (.aload_n 0, 1) := by decide +kernel
theorem dX11_see_61 : decode cX11_see 61 = .ok (.getfield 53, 3) := by decide +kernel
theorem dX11_see_64 : decode cX11_see 64 = .ok (.iload_n 2, 1) := by decide +kernel
theorem dX11_see_65 : decode cX11_see 65 = .ok (.iaload, 1) := by decide +kernel
theorem dX11_see_66 : decode cX11_see 66 = .ok (.iadd, 1) := by decide +kernel
theorem dX11_see_67 : decode cX11_see 67 = .ok (.iload_n 1, 1) := by decide +kernel
theorem dX11_see_68 : decode cX11_see 68 = .ok (.iastore, 1) := by decide +kernel
theorem dX11_see_69 : decode cX11_see 69 = .ok (.aload_n 0, 1) := by decide +kernel
theorem dX11_see_70 : decode cX11_see 70 = .ok (.getfield 53, 3) := by decide +kernel
theorem dX11_see_73 : decode cX11_see 73 = .ok (.iload_n 2, 1) := by decide +kernel
theorem dX11_see_74 : decode cX11_see 74 = .ok (.dup2, 1) := by decide +kernel
theorem dX11_see_75 : decode cX11_see 75 = .ok (.iaload, 1) := by decide +kernel
theorem dX11_see_76 : decode cX11_see 76 = .ok (.iconst 1, 1) := by decide +kernel
theorem dX11_see_77 : decode cX11_see 77 = .ok (.iadd, 1) := by decide +kernel
theorem dX11_see_78 : decode cX11_see 78 = .ok (.iastore, 1) := by decide +kernel
theorem dX11_see_79 : decode cX11_see 79 = .ok (.aload_n 0, 1) := by decide +kernel
theorem dX11_see_80 : decode cX11_see 80 = .ok (.getfield 53, 3) := by decide +kernel
theorem dX11_see_83 : decode cX11_see 83 = .ok (.iload_n 2, 1) := by decide +kernel
theorem dX11_see_84 : decode cX11_see 84 = .ok (.iaload, 1) := by decide +kernel
theorem dX11_see_85 : decode cX11_see 85 = .ok (.ireturn, 1) := by decide +kernel
theorem dX11_judged_0 : decode cX11_judged 0 = .ok (.iconst 0, 1) := by decide +kernel
theorem dX11_judged_1 : decode cX11_judged 1 = .ok (.istore_n 2, 1) := by decide +kernel
theorem dX11_judged_2 : decode cX11_judged 2 = .ok (.iload_n 2, 1) := by decide +kernel
theorem dX11_judged_3 : decode cX11_judged 3 = .ok (.aload_n 0, 1) := by decide +kernel
theorem dX11_judged_4 : decode cX11_judged 4 = .ok (.getfield 89, 3) := by decide +kernel
theorem dX11_judged_7 : decode cX11_judged 7 = .ok (.if_icmp .ge 59, 3) := by decide +kernel
theorem dX11_judged_10 : decode cX11_judged 10 = .ok (.iconst 0, 1) := by decide +kernel
theorem dX11_judged_11 : decode cX11_judged 11 = .ok (.istore_n 3, 1) := by decide +kernel
theorem dX11_judged_12 : decode cX11_judged 12 = .ok (.iload_n 3, 1) := by decide +kernel
theorem dX11_judged_13 : decode cX11_judged 13 = .ok (.aload_n 0, 1) := by decide +kernel
theorem dX11_judged_14 : decode cX11_judged 14 = .ok (.getfield 53, 3) := by decide +kernel
theorem dX11_judged_17 : decode cX11_judged 17 = .ok (.iload_n 2, 1) := by decide +kernel
theorem dX11_judged_18 : decode cX11_judged 18 = .ok (.iaload, 1) := by decide +kernel
theorem dX11_judged_19 : decode cX11_judged 19 = .ok (.if_icmp .ge 41, 3) := by decide +kernel
theorem dX11_judged_22 : decode cX11_judged 22 = .ok (.aload_n 0, 1) := by decide +kernel
theorem dX11_judged_23 : decode cX11_judged 23 = .ok (.aload_n 0, 1) := by decide +kernel
theorem dX11_judged_24 : decode cX11_judged 24 = .ok (.iload_n 2, 1) := by decide +kernel
theorem dX11_judged_25 : decode cX11_judged 25 = .ok (.iload_n 3, 1) := by decide +kernel
theorem dX11_judged_26 : decode cX11_judged 26 = .ok (.invokevirtual 222, 3) := by decide +kernel
theorem dX11_judged_29 : decode cX11_judged 29 = .ok (.iload_n 1, 1) := by decide +kernel
theorem dX11_judged_30 : decode cX11_judged 30 = .ok (.invokevirtual 122, 3) := by decide +kernel
theorem dX11_judged_33 : decode cX11_judged 33 = .ok (.aload_n 0, 1) := by decide +kernel
theorem dX11_judged_34 : decode cX11_judged 34 = .ok (.getfield 50, 3) := by decide +kernel
theorem dX11_judged_37 : decode cX11_judged 37 = .ok (.bipush 12, 2) := by decide +kernel
theorem dX11_judged_39 : decode cX11_judged 39 = .ok (.iload_n 2, 1) := by decide +kernel
theorem dX11_judged_40 : decode cX11_judged 40 = .ok (.imul, 1) := by decide +kernel
theorem dX11_judged_41 : decode cX11_judged 41 = .ok (.iload_n 3, 1) := by decide +kernel
theorem dX11_judged_42 : decode cX11_judged 42 = .ok (.iadd, 1) := by decide +kernel
theorem dX11_judged_43 : decode cX11_judged 43 = .ok (.iaload, 1) := by decide +kernel
theorem dX11_judged_44 : decode cX11_judged 44 = .ok (.if_icmp .eq 10, 3) := by decide +kernel
theorem dX11_judged_47 : decode cX11_judged 47 = .ok (.bipush 100, 2) := by decide +kernel
theorem dX11_judged_49 : decode cX11_judged 49 = .ok (.iload_n 2, 1) := by decide +kernel
theorem dX11_judged_50 : decode cX11_judged 50 = .ok (.imul, 1) := by decide +kernel
theorem dX11_judged_51 : decode cX11_judged 51 = .ok (.iload_n 3, 1) := by decide +kernel
theorem dX11_judged_52 : decode cX11_judged 52 = .ok (.iadd, 1) := by decide +kernel
theorem dX11_judged_53 : decode cX11_judged 53 = .ok (.ireturn, 1) := by decide +kernel
theorem dX11_judged_54 : decode cX11_judged 54 = .ok (.iinc 3 1, 3) := by decide +kernel
theorem dX11_judged_57 : decode cX11_judged 57 = .ok (.goto (-45), 3) := by decide +kernel
theorem dX11_judged_60 : decode cX11_judged 60 = .ok (.iinc 2 1, 3) := by decide +kernel
theorem dX11_judged_63 : decode cX11_judged 63 = .ok (.goto (-61), 3) := by decide +kernel
theorem dX11_judged_66 : decode cX11_judged 66 = .ok (.bipush (-6), 2) := by decide +kernel
theorem dX11_judged_68 : decode cX11_judged 68 = .ok (.ireturn, 1) := by decide +kernel
theorem dX11_fits_0 : decode cX11_fits 0 = .ok (.iconst 0, 1) := by decide +kernel
theorem dX11_fits_1 : decode cX11_fits 1 = .ok (.istore_n 1, 1) := by decide +kernel
theorem dX11_fits_2 : decode cX11_fits 2 = .ok (.iconst 0, 1) := by decide +kernel
theorem dX11_fits_3 : decode cX11_fits 3 = .ok (.istore_n 2, 1) := by decide +kernel
theorem dX11_fits_4 : decode cX11_fits 4 = .ok (.iload_n 2, 1) := by decide +kernel
theorem dX11_fits_5 : decode cX11_fits 5 = .ok (.bipush 6, 2) := by decide +kernel
theorem dX11_fits_7 : decode cX11_fits 7 = .ok (.if_icmp .ge 27, 3) := by decide +kernel
theorem dX11_fits_10 : decode cX11_fits 10 = .ok (.iload_n 1, 1) := by decide +kernel
theorem dX11_fits_11 : decode cX11_fits 11 = .ok (.aload_n 0, 1) := by decide +kernel
theorem dX11_fits_12 : decode cX11_fits 12 = .ok (.iload_n 2, 1) := by decide +kernel
theorem dX11_fits_13 : decode cX11_fits 13 = .ok (.invokevirtual 225, 3) := by decide +kernel
theorem dX11_fits_16 : decode cX11_fits 16 = .ok (.ifCond .ge 9, 3) := by decide +kernel
theorem dX11_fits_19 : decode cX11_fits 19 = .ok (.iconst 1, 1) := by decide +kernel
theorem dX11_fits_20 : decode cX11_fits 20 = .ok (.iload_n 2, 1) := by decide +kernel
theorem dX11_fits_21 : decode cX11_fits 21 = .ok (.ishl, 1) := by decide +kernel
theorem dX11_fits_22 : decode cX11_fits 22 = .ok (.goto 4, 3) := by decide +kernel
theorem dX11_fits_25 : decode cX11_fits 25 = .ok (.iconst 0, 1) := by decide +kernel
theorem dX11_fits_26 : decode cX11_fits 26 = .ok (.ior, 1) := by decide +kernel
theorem dX11_fits_27 : decode cX11_fits 27 = .ok (.istore_n 1, 1) := by decide +kernel
theorem dX11_fits_28 : decode cX11_fits 28 = .ok (.iinc 2 1, 3) := by decide +kernel
theorem dX11_fits_31 : decode cX11_fits 31 = .ok (.goto (-27), 3) := by decide +kernel
theorem dX11_fits_34 : decode cX11_fits 34 = .ok (.iload_n 1, 1) := by decide +kernel
theorem dX11_fits_35 : decode cX11_fits 35 = .ok (.ireturn, 1) := by decide +kernel
theorem dX11_judge_0 : decode cX11_judge 0 = .ok (.iload_n 1, 1) := by decide +kernel
theorem dX11_judge_1 : decode cX11_judge 1 = .ok (.invokestatic 133, 3) := by decide +kernel
theorem dX11_judge_4 : decode cX11_judge 4 = .ok (.ifCond .eq 11, 3) := by decide +kernel
theorem dX11_judge_7 : decode cX11_judge 7 = .ok (.aload_n 0, 1) := by decide +kernel
theorem dX11_judge_8 : decode cX11_judge 8 = .ok (.iload_n 1, 1) := by decide +kernel
theorem dX11_judge_9 : decode cX11_judge 9 = .ok (.invokevirtual 225, 3) := by decide +kernel
theorem dX11_judge_12 : decode cX11_judge 12 = .ok (.goto 5, 3) := by decide +kernel
theorem dX11_judge_15 : decode cX11_judge 15 = .ok (.bipush (-2), 2) := by decide +kernel
theorem dX11_judge_17 : decode cX11_judge 17 = .ok (.ireturn, 1) := by decide +kernel
theorem dX11_pass_0 : decode cX11_pass 0 = .ok (.aload_n 0, 1) := by decide +kernel
theorem dX11_pass_1 : decode cX11_pass 1 = .ok (.getfield 228, 3) := by decide +kernel
theorem dX11_pass_4 : decode cX11_pass 4 = .ok (.ifCond .eq 7, 3) := by decide +kernel
theorem dX11_pass_7 : decode cX11_pass 7 = .ok (.iload_n 1, 1) := by decide +kernel
theorem dX11_pass_8 : decode cX11_pass 8 = .ok (.goto 12, 3) := by decide +kernel
theorem dX11_pass_11 : decode cX11_pass 11 = .ok (.aload_n 0, 1) := by decide +kernel
theorem dX11_pass_12 : decode cX11_pass 12 = .ok (.getfield 56, 3) := by decide +kernel
theorem dX11_pass_15 : decode cX11_pass 15 = .ok (.aload_n 0, 1) := by decide +kernel
theorem dX11_pass_16 : decode cX11_pass 16 = .ok (.getfield 232, 3) := by decide +kernel
theorem dX11_pass_19 : decode cX11_pass 19 = .ok (.iaload, 1) := by decide +kernel
theorem dX11_pass_20 : decode cX11_pass 20 = .ok (.istore_n 2, 1) := by decide +kernel
theorem dX11_pass_21 : decode cX11_pass 21 = .ok (.aload_n 0, 1) := by decide +kernel
theorem dX11_pass_22 : decode cX11_pass 22 = .ok (.getfield 56, 3) := by decide +kernel
theorem dX11_pass_25 : decode cX11_pass 25 = .ok (.aload_n 0, 1) := by decide +kernel
theorem dX11_pass_26 : decode cX11_pass 26 = .ok (.getfield 232, 3) := by decide +kernel
theorem dX11_pass_29 : decode cX11_pass 29 = .ok (.iload_n 2, 1) := by decide +kernel
theorem dX11_pass_30 : decode cX11_pass 30 = .ok (.iastore, 1) := by decide +kernel
theorem dX11_pass_31 : decode cX11_pass 31 = .ok (.aload_n 0, 1) := by decide +kernel
theorem dX11_pass_32 : decode cX11_pass 32 = .ok (.dup, 1) := by decide +kernel
theorem dX11_pass_33 : decode cX11_pass 33 = .ok (.getfield 232, 3) := by decide +kernel
theorem dX11_pass_36 : decode cX11_pass 36 = .ok (.iconst 1, 1) := by decide +kernel
theorem dX11_pass_37 : decode cX11_pass 37 = .ok (.iadd, 1) := by decide +kernel
theorem dX11_pass_38 : decode cX11_pass 38 = .ok (.putfield 232, 3) := by decide +kernel
theorem dX11_pass_41 : decode cX11_pass 41 = .ok (.iload_n 2, 1) := by decide +kernel
theorem dX11_pass_42 : decode cX11_pass 42 = .ok (.ireturn, 1) := by decide +kernel
theorem dX11_passAll_0 : decode cX11_passAll 0 = .ok (.aload_n 0, 1) := by decide +kernel
theorem dX11_passAll_1 : decode cX11_passAll 1 = .ok (.aload_n 0, 1) := by decide +kernel
theorem dX11_passAll_2 : decode cX11_passAll 2 = .ok (.aload_n 0, 1) := by decide +kernel
theorem dX11_passAll_3 : decode cX11_passAll 3 = .ok (.getfield 63, 3) := by decide +kernel
theorem dX11_passAll_6 : decode cX11_passAll 6 = .ok (.invokevirtual 235, 3) := by decide +kernel
theorem dX11_passAll_9 : decode cX11_passAll 9 = .ok (.putfield 63, 3) := by decide +kernel
theorem dX11_passAll_12 : decode cX11_passAll 12 = .ok (.aload_n 0, 1) := by decide +kernel
theorem dX11_passAll_13 : decode cX11_passAll 13 = .ok (.aload_n 0, 1) := by decide +kernel
theorem dX11_passAll_14 : decode cX11_passAll 14 = .ok (.aload_n 0, 1) := by decide +kernel
theorem dX11_passAll_15 : decode cX11_passAll 15 = .ok (.getfield 67, 3) := by decide +kernel
theorem dX11_passAll_18 : decode cX11_passAll 18 = .ok (.invokevirtual 235, 3) := by decide +kernel
theorem dX11_passAll_21 : decode cX11_passAll 21 = .ok (.putfield 67, 3) := by decide +kernel
theorem dX11_passAll_24 : decode cX11_passAll 24 = .ok (.aload_n 0, 1) := by decide +kernel
theorem dX11_passAll_25 : decode cX11_passAll 25 = .ok (.aload_n 0, 1) := by decide +kernel
theorem dX11_passAll_26 : decode cX11_passAll 26 = .ok (.aload_n 0, 1) := by decide +kernel
theorem dX11_passAll_27 : decode cX11_passAll 27 = .ok (.getfield 219, 3) := by decide +kernel
theorem dX11_passAll_30 : decode cX11_passAll 30 = .ok (.invokevirtual 235, 3) := by decide +kernel
theorem dX11_passAll_33 : decode cX11_passAll 33 = .ok (.putfield 219, 3) := by decide +kernel
theorem dX11_passAll_36 : decode cX11_passAll 36 = .ok (.aload_n 0, 1) := by decide +kernel
theorem dX11_passAll_37 : decode cX11_passAll 37 = .ok (.aload_n 0, 1) := by decide +kernel
theorem dX11_passAll_38 : decode cX11_passAll 38 = .ok (.aload_n 0, 1) := by decide +kernel
theorem dX11_passAll_39 : decode cX11_passAll 39 = .ok (.getfield 89, 3) := by decide +kernel
theorem dX11_passAll_42 : decode cX11_passAll 42 = .ok (.invokevirtual 235, 3) := by decide +kernel
theorem dX11_passAll_45 : decode cX11_passAll 45 = .ok (.putfield 89, 3) := by decide +kernel
theorem dX11_passAll_48 : decode cX11_passAll 48 = .ok (.iconst 0, 1) := by decide +kernel
theorem dX11_passAll_49 : decode cX11_passAll 49 = .ok (.istore_n 1, 1) := by decide +kernel
theorem dX11_passAll_50 : decode cX11_passAll 50 = .ok (.iload_n 1, 1) := by decide +kernel
theorem dX11_passAll_51 : decode cX11_passAll 51 = .ok (.bipush 12, 2) := by decide +kernel
theorem dX11_passAll_53 : decode cX11_passAll 53 = .ok (.if_icmp .ge 57, 3) := by decide +kernel
theorem dX11_passAll_56 : decode cX11_passAll 56 = .ok (.aload_n 0, 1) := by decide +kernel
theorem dX11_passAll_57 : decode cX11_passAll 57 = .ok (.getfield 13, 3) := by decide +kernel
theorem dX11_passAll_60 : decode cX11_passAll 60 = .ok (.iload_n 1, 1) := by decide +kernel
theorem dX11_passAll_61 : decode cX11_passAll 61 = .ok (.aload_n 0, 1) := by decide +kernel
theorem dX11_passAll_62 : decode cX11_passAll 62 = .ok (.aload_n 0, 1) := by decide +kernel
theorem dX11_passAll_63 : decode cX11_passAll 63 = .ok (.getfield 13, 3) := by decide +kernel
theorem dX11_passAll_66 : decode cX11_passAll 66 = .ok (.iload_n 1, 1) := by decide +kernel
theorem dX11_passAll_67 : decode cX11_passAll 67 = .ok (.iaload, 1) := by decide +kernel
theorem dX11_passAll_68 : decode cX11_passAll 68 = .ok (.invokevirtual 235, 3) := by decide +kernel
theorem dX11_passAll_71 : decode cX11_passAll 71 = .ok (.iastore, 1) := by decide +kernel
theorem dX11_passAll_72 : decode cX11_passAll 72 = .ok (.aload_n 0, 1) := by decide +kernel
theorem dX11_passAll_73 : decode cX11_passAll 73 = .ok (.getfield 16, 3) := by decide +kernel
theorem dX11_passAll_76 : decode cX11_passAll 76 = .ok (.iload_n 1, 1) := by decide +kernel
theorem dX11_passAll_77 : decode cX11_passAll 77 = .ok (.aload_n 0, 1) := by decide +kernel
theorem dX11_passAll_78 : decode cX11_passAll 78 = .ok (.aload_n 0, 1) := by decide +kernel
theorem dX11_passAll_79 : decode cX11_passAll 79 = .ok (.getfield 16, 3) := by decide +kernel
theorem dX11_passAll_82 : decode cX11_passAll 82 = .ok (.iload_n 1, 1) := by decide +kernel
theorem dX11_passAll_83 : decode cX11_passAll 83 = .ok (.iaload, 1) := by decide +kernel
theorem dX11_passAll_84 : decode cX11_passAll 84 = .ok (.invokevirtual 235, 3) := by decide +kernel
theorem dX11_passAll_87 : decode cX11_passAll 87 = .ok (.iastore, 1) := by decide +kernel
theorem dX11_passAll_88 : decode cX11_passAll 88 = .ok (.aload_n 0, 1) := by decide +kernel
theorem dX11_passAll_89 : decode cX11_passAll 89 = .ok (.getfield 47, 3) := by decide +kernel
theorem dX11_passAll_92 : decode cX11_passAll 92 = .ok (.iload_n 1, 1) := by decide +kernel
theorem dX11_passAll_93 : decode cX11_passAll 93 = .ok (.aload_n 0, 1) := by decide +kernel
theorem dX11_passAll_94 : decode cX11_passAll 94 = .ok (.aload_n 0, 1) := by decide +kernel
theorem dX11_passAll_95 : decode cX11_passAll 95 = .ok (.getfield 47, 3) := by decide +kernel
theorem dX11_passAll_98 : decode cX11_passAll 98 = .ok (.iload_n 1, 1) := by decide +kernel
theorem dX11_passAll_99 : decode cX11_passAll 99 = .ok (.iaload, 1) := by decide +kernel
theorem dX11_passAll_100 : decode cX11_passAll 100 = .ok (.invokevirtual 235, 3) := by decide +kernel
theorem dX11_passAll_103 : decode cX11_passAll 103 = .ok (.iastore, 1) := by decide +kernel
theorem dX11_passAll_104 : decode cX11_passAll 104 = .ok (.iinc 1 1, 3) := by decide +kernel
theorem dX11_passAll_107 : decode cX11_passAll 107 = .ok (.goto (-57), 3) := by decide +kernel
theorem dX11_passAll_110 : decode cX11_passAll 110 = .ok (.iconst 0, 1) := by decide +kernel
theorem dX11_passAll_111 : decode cX11_passAll 111 = .ok (.istore_n 1, 1) := by decide +kernel
theorem dX11_passAll_112 : decode cX11_passAll 112 = .ok (.iload_n 1, 1) := by decide +kernel
theorem dX11_passAll_113 : decode cX11_passAll 113 = .ok (.bipush 8, 2) := by decide +kernel
theorem dX11_passAll_115 : decode cX11_passAll 115 = .ok (.if_icmp .ge 25, 3) := by decide +kernel
theorem dX11_passAll_118 : decode cX11_passAll 118 = .ok (.aload_n 0, 1) := by decide +kernel
theorem dX11_passAll_119 : decode cX11_passAll 119 = .ok (.getfield 53, 3) := by decide +kernel
theorem dX11_passAll_122 : decode cX11_passAll 122 = .ok (.iload_n 1, 1) := by decide +kernel
theorem dX11_passAll_123 : decode cX11_passAll 123 = .ok (.aload_n 0, 1) := by decide +kernel
theorem dX11_passAll_124 : decode cX11_passAll 124 = .ok (.aload_n 0, 1) := by decide +kernel
theorem dX11_passAll_125 : decode cX11_passAll 125 = .ok (.getfield 53, 3) := by decide +kernel
theorem dX11_passAll_128 : decode cX11_passAll 128 = .ok (.iload_n 1, 1) := by decide +kernel
theorem dX11_passAll_129 : decode cX11_passAll 129 = .ok (.iaload, 1) := by decide +kernel
theorem dX11_passAll_130 : decode cX11_passAll 130 = .ok (.invokevirtual 235, 3) := by decide +kernel
theorem dX11_passAll_133 : decode cX11_passAll 133 = .ok (.iastore, 1) := by decide +kernel
theorem dX11_passAll_134 : decode cX11_passAll 134 = .ok (.iinc 1 1, 3) := by decide +kernel
theorem dX11_passAll_137 : decode cX11_passAll 137 = .ok (.goto (-25), 3) := by decide +kernel
theorem dX11_passAll_140 : decode cX11_passAll 140 = .ok (.iconst 0, 1) := by decide +kernel
theorem dX11_passAll_141 : decode cX11_passAll 141 = .ok (.istore_n 1, 1) := by decide +kernel
theorem dX11_passAll_142 : decode cX11_passAll 142 = .ok (.iload_n 1, 1) := by decide +kernel
theorem dX11_passAll_143 : decode cX11_passAll 143 = .ok (.bipush 96, 2) := by decide +kernel
theorem dX11_passAll_145 : decode cX11_passAll 145 = .ok (.if_icmp .ge 25, 3) := by decide +kernel
theorem dX11_passAll_148 : decode cX11_passAll 148 = .ok (.aload_n 0, 1) := by decide +kernel
theorem dX11_passAll_149 : decode cX11_passAll 149 = .ok (.getfield 50, 3) := by decide +kernel
theorem dX11_passAll_152 : decode cX11_passAll 152 = .ok (.iload_n 1, 1) := by decide +kernel
theorem dX11_passAll_153 : decode cX11_passAll 153 = .ok (.aload_n 0, 1) := by decide +kernel
theorem dX11_passAll_154 : decode cX11_passAll 154 = .ok (.aload_n 0, 1) := by decide +kernel
theorem dX11_passAll_155 : decode cX11_passAll 155 = .ok (.getfield 50, 3) := by decide +kernel
theorem dX11_passAll_158 : decode cX11_passAll 158 = .ok (.iload_n 1, 1) := by decide +kernel
theorem dX11_passAll_159 : decode cX11_passAll 159 = .ok (.iaload, 1) := by decide +kernel
theorem dX11_passAll_160 : decode cX11_passAll 160 = .ok (.invokevirtual 235, 3) := by decide +kernel
theorem dX11_passAll_163 : decode cX11_passAll 163 = .ok (.iastore, 1) := by decide +kernel
theorem dX11_passAll_164 : decode cX11_passAll 164 = .ok (.iinc 1 1, 3) := by decide +kernel
theorem dX11_passAll_167 : decode cX11_passAll 167 = .ok (.goto (-25), 3) := by decide +kernel
theorem dX11_passAll_170 : decode cX11_passAll 170 = .ok (.return_, 1) := by decide +kernel
theorem dX11_image_0 : decode cX11_image 0 = .ok (.iload_n 1, 1) := by decide +kernel
theorem dX11_image_1 : decode cX11_image 1 = .ok (.i2l, 1) := by decide +kernel
theorem dX11_image_2 : decode cX11_image 2 = .ok (.lconst 0, 1) := by decide +kernel
theorem dX11_image_3 : decode cX11_image 3 = .ok (.lconst 1, 1) := by decide +kernel
theorem dX11_image_4 : decode cX11_image 4 = .ok (.invokestatic 74, 3) := by decide +kernel
theorem dX11_image_7 : decode cX11_image 7 = .ok (.ifCond .ne 6, 3) := by decide +kernel
theorem dX11_image_10 : decode cX11_image 10 = .ok (.bipush (-2), 2) := by decide +kernel
theorem dX11_image_12 : decode cX11_image 12 = .ok (.ireturn, 1) := by decide +kernel
theorem dX11_image_13 : decode cX11_image 13 = .ok (.aload_n 0, 1) := by decide +kernel
theorem dX11_image_14 : decode cX11_image 14 = .ok (.sipush 200, 3) := by decide +kernel
theorem dX11_image_17 : decode cX11_image 17 = .ok (.iload_n 1, 1) := by decide +kernel
theorem dX11_image_18 : decode cX11_image 18 = .ok (.imul, 1) := by decide +kernel
theorem dX11_image_19 : decode cX11_image 19 = .ok (.putfield 232, 3) := by decide +kernel
theorem dX11_image_22 : decode cX11_image 22 = .ok (.aload_n 0, 1) := by decide +kernel
theorem dX11_image_23 : decode cX11_image 23 = .ok (.iconst 1, 1) := by decide +kernel
theorem dX11_image_24 : decode cX11_image 24 = .ok (.putfield 228, 3) := by decide +kernel
theorem dX11_image_27 : decode cX11_image 27 = .ok (.aload_n 0, 1) := by decide +kernel
theorem dX11_image_28 : decode cX11_image 28 = .ok (.invokevirtual 238, 3) := by decide +kernel
theorem dX11_image_31 : decode cX11_image 31 = .ok (.aload_n 0, 1) := by decide +kernel
theorem dX11_image_32 : decode cX11_image 32 = .ok (.getfield 59, 3) := by decide +kernel
theorem dX11_image_35 : decode cX11_image 35 = .ok (.iload_n 1, 1) := by decide +kernel
theorem dX11_image_36 : decode cX11_image 36 = .ok (.iconst 1, 1) := by decide +kernel
theorem dX11_image_37 : decode cX11_image 37 = .ok (.bastore, 1) := by decide +kernel
theorem dX11_image_38 : decode cX11_image 38 = .ok (.iconst 1, 1) := by decide +kernel
theorem dX11_image_39 : decode cX11_image 39 = .ok (.ireturn, 1) := by decide +kernel
theorem dX11_restore_0 : decode cX11_restore 0 = .ok (.iload_n 1, 1) := by decide +kernel
theorem dX11_restore_1 : decode cX11_restore 1 = .ok (.i2l, 1) := by decide +kernel
theorem dX11_restore_2 : decode cX11_restore 2 = .ok (.lconst 0, 1) := by decide +kernel
theorem dX11_restore_3 : decode cX11_restore 3 = .ok (.lconst 1, 1) := by decide +kernel
theorem dX11_restore_4 : decode cX11_restore 4 = .ok (.invokestatic 74, 3) := by decide +kernel
theorem dX11_restore_7 : decode cX11_restore 7 = .ok (.ifCond .ne 6, 3) := by decide +kernel
theorem dX11_restore_10 : decode cX11_restore 10 = .ok (.bipush (-2), 2) := by decide +kernel
theorem dX11_restore_12 : decode cX11_restore 12 = .ok (.ireturn, 1) := by decide +kernel
theorem dX11_restore_13 : decode cX11_restore 13 = .ok (.aload_n 0, 1) := by decide +kernel
theorem dX11_restore_14 : decode cX11_restore 14 = .ok (.getfield 59, 3) := by decide +kernel
theorem dX11_restore_17 : decode cX11_restore 17 = .ok (.iload_n 1, 1) := by decide +kernel
theorem dX11_restore_18 : decode cX11_restore 18 = .ok (.baload, 1) := by decide +kernel
theorem dX11_restore_19 : decode cX11_restore 19 = .ok (.ifCond .ne 6, 3) := by decide +kernel
theorem dX11_restore_22 : decode cX11_restore 22 = .ok (.bipush (-3), 2) := by decide +kernel
theorem dX11_restore_24 : decode cX11_restore 24 = .ok (.ireturn, 1) := by decide +kernel
theorem dX11_restore_25 : decode cX11_restore 25 = .ok (.aload_n 0, 1) := by decide +kernel
theorem dX11_restore_26 : decode cX11_restore 26 = .ok (.sipush 200, 3) := by decide +kernel
theorem dX11_restore_29 : decode cX11_restore 29 = .ok (.iload_n 1, 1) := by decide +kernel
theorem dX11_restore_30 : decode cX11_restore 30 = .ok (.imul, 1) := by decide +kernel
theorem dX11_restore_31 : decode cX11_restore 31 = .ok (.putfield 232, 3) := by decide +kernel
theorem dX11_restore_34 : decode cX11_restore 34 = .ok (.aload_n 0, 1) := by decide +kernel
theorem dX11_restore_35 : decode cX11_restore 35 = .ok (.iconst 0, 1) := by decide +kernel
theorem dX11_restore_36 : decode cX11_restore 36 = .ok (.putfield 228, 3) := by decide +kernel
theorem dX11_restore_39 : decode cX11_restore 39 = .ok (.aload_n 0, 1) := by decide +kernel
theorem dX11_restore_40 : decode cX11_restore 40 = .ok (.invokevirtual 238, 3) := by decide +kernel
theorem dX11_restore_43 : decode cX11_restore 43 = .ok (.aload_n 0, 1) := by decide +kernel
theorem dX11_restore_44 : decode cX11_restore 44 = .ok (.iconst 0, 1) := by decide +kernel
theorem dX11_restore_45 : decode cX11_restore 45 = .ok (.invokevirtual 70, 3) := by decide +kernel
theorem dX11_restore_48 : decode cX11_restore 48 = .ok (.iconst 1, 1) := by decide +kernel
theorem dX11_restore_49 : decode cX11_restore 49 = .ok (.ireturn, 1) := by decide +kernel
theorem dX11_told_0 : decode cX11_told 0 = .ok (.iload_n 1, 1) := by decide +kernel
theorem dX11_told_1 : decode cX11_told 1 = .ok (.i2l, 1) := by decide +kernel
theorem dX11_told_2 : decode cX11_told 2 = .ok (.ldc2_w 241, 3) := by decide +kernel
theorem dX11_told_5 : decode cX11_told 5 = .ok (.ldc2_w 243, 3) := by decide +kernel
theorem dX11_told_8 : decode cX11_told 8 = .ok (.invokestatic 74, 3) := by decide +kernel
theorem dX11_told_11 : decode cX11_told 11 = .ok (.ifCond .eq 29, 3) := by decide +kernel
theorem dX11_told_14 : decode cX11_told 14 = .ok (.aload_n 0, 1) := by decide +kernel
theorem dX11_told_15 : decode cX11_told 15 = .ok (.iload_n 1, 1) := by decide +kernel
theorem dX11_told_16 : decode cX11_told 16 = .ok (.bipush 10, 2) := by decide +kernel
theorem dX11_told_18 : decode cX11_told 18 = .ok (.isub, 1) := by decide +kernel
theorem dX11_told_19 : decode cX11_told 19 = .ok (.invokevirtual 100, 3) := by decide +kernel
theorem dX11_told_22 : decode cX11_told 22 = .ok (.ifCond .eq 15, 3) := by decide +kernel
theorem dX11_told_25 : decode cX11_told 25 = .ok (.aload_n 0, 1) := by decide +kernel
theorem dX11_told_26 : decode cX11_told 26 = .ok (.getfield 16, 3) := by decide +kernel
theorem dX11_told_29 : decode cX11_told 29 = .ok (.iload_n 1, 1) := by decide +kernel
theorem dX11_told_30 : decode cX11_told 30 = .ok (.bipush 10, 2) := by decide +kernel
theorem dX11_told_32 : decode cX11_told 32 = .ok (.isub, 1) := by decide +kernel
theorem dX11_told_33 : decode cX11_told 33 = .ok (.iaload, 1) := by decide +kernel
theorem dX11_told_34 : decode cX11_told 34 = .ok (.goto 5, 3) := by decide +kernel
theorem dX11_told_37 : decode cX11_told 37 = .ok (.bipush (-6), 2) := by decide +kernel
theorem dX11_told_39 : decode cX11_told 39 = .ok (.ireturn, 1) := by decide +kernel
theorem dX11_told_40 : decode cX11_told 40 = .ok (.iload_n 1, 1) := by decide +kernel
theorem dX11_told_41 : decode cX11_told 41 = .ok (.tableswitch 60 0 4 #[35, 40, 45, 50, 55], 35) := by decide +kernel
theorem dX11_told_76 : decode cX11_told 76 = .ok (.aload_n 0, 1) := by decide +kernel
theorem dX11_told_77 : decode cX11_told 77 = .ok (.getfield 63, 3) := by decide +kernel
theorem dX11_told_80 : decode cX11_told 80 = .ok (.ireturn, 1) := by decide +kernel
theorem dX11_told_81 : decode cX11_told 81 = .ok (.aload_n 0, 1) := by decide +kernel
theorem dX11_told_82 : decode cX11_told 82 = .ok (.getfield 67, 3) := by decide +kernel
theorem dX11_told_85 : decode cX11_told 85 = .ok (.ireturn, 1) := by decide +kernel
theorem dX11_told_86 : decode cX11_told 86 = .ok (.aload_n 0, 1) := by decide +kernel
theorem dX11_told_87 : decode cX11_told 87 = .ok (.getfield 82, 3) := by decide +kernel
theorem dX11_told_90 : decode cX11_told 90 = .ok (.ireturn, 1) := by decide +kernel
theorem dX11_told_91 : decode cX11_told 91 = .ok (.aload_n 0, 1) := by decide +kernel
theorem dX11_told_92 : decode cX11_told 92 = .ok (.getfield 219, 3) := by decide +kernel
theorem dX11_told_95 : decode cX11_told 95 = .ok (.ireturn, 1) := by decide +kernel
theorem dX11_told_96 : decode cX11_told 96 = .ok (.aload_n 0, 1) := by decide +kernel
theorem dX11_told_97 : decode cX11_told 97 = .ok (.getfield 89, 3) := by decide +kernel
theorem dX11_told_100 : decode cX11_told 100 = .ok (.ireturn, 1) := by decide +kernel
theorem dX11_told_101 : decode cX11_told 101 = .ok (.bipush (-2), 2) := by decide +kernel
theorem dX11_told_103 : decode cX11_told 103 = .ok (.ireturn, 1) := by decide +kernel
theorem dJ6_bitCount_0f7a4_0 : decode cJ6_bitCount_0f7a4 0 = .ok (.iload_n 0, 1) := by decide +kernel
theorem dJ6_bitCount_0f7a4_1 : decode cJ6_bitCount_0f7a4 1 = .ok (.iload_n 0, 1) := by decide +kernel
theorem dJ6_bitCount_0f7a4_2 : decode cJ6_bitCount_0f7a4 2 = .ok (.iconst 1, 1) := by decide +kernel
theorem dJ6_bitCount_0f7a4_3 : decode cJ6_bitCount_0f7a4 3 = .ok (.iushr, 1) := by decide +kernel
theorem dJ6_bitCount_0f7a4_4 : decode cJ6_bitCount_0f7a4 4 = .ok (.ldc_w 265, 3) := by decide +kernel
theorem dJ6_bitCount_0f7a4_7 : decode cJ6_bitCount_0f7a4 7 = .ok (.iand, 1) := by decide +kernel
theorem dJ6_bitCount_0f7a4_8 : decode cJ6_bitCount_0f7a4 8 = .ok (.isub, 1) := by decide +kernel
theorem dJ6_bitCount_0f7a4_9 : decode cJ6_bitCount_0f7a4 9 = .ok (.istore_n 0, 1) := by decide +kernel
theorem dJ6_bitCount_0f7a4_10 : decode cJ6_bitCount_0f7a4 10 = .ok (.iload_n 0, 1) := by decide +kernel
theorem dJ6_bitCount_0f7a4_11 : decode cJ6_bitCount_0f7a4 11 = .ok (.ldc_w 266, 3) := by decide +kernel
theorem dJ6_bitCount_0f7a4_14 : decode cJ6_bitCount_0f7a4 14 = .ok (.iand, 1) := by decide +kernel
theorem dJ6_bitCount_0f7a4_15 : decode cJ6_bitCount_0f7a4 15 = .ok (.iload_n 0, 1) := by decide +kernel
theorem dJ6_bitCount_0f7a4_16 : decode cJ6_bitCount_0f7a4 16 = .ok (.iconst 2, 1) := by decide +kernel
theorem dJ6_bitCount_0f7a4_17 : decode cJ6_bitCount_0f7a4 17 = .ok (.iushr, 1) := by decide +kernel
theorem dJ6_bitCount_0f7a4_18 : decode cJ6_bitCount_0f7a4 18 = .ok (.ldc_w 266, 3) := by decide +kernel
theorem dJ6_bitCount_0f7a4_21 : decode cJ6_bitCount_0f7a4 21 = .ok (.iand, 1) := by decide +kernel
theorem dJ6_bitCount_0f7a4_22 : decode cJ6_bitCount_0f7a4 22 = .ok (.iadd, 1) := by decide +kernel
theorem dJ6_bitCount_0f7a4_23 : decode cJ6_bitCount_0f7a4 23 = .ok (.istore_n 0, 1) := by decide +kernel
theorem dJ6_bitCount_0f7a4_24 : decode cJ6_bitCount_0f7a4 24 = .ok (.iload_n 0, 1) := by decide +kernel
theorem dJ6_bitCount_0f7a4_25 : decode cJ6_bitCount_0f7a4 25 = .ok (.iload_n 0, 1) := by decide +kernel
theorem dJ6_bitCount_0f7a4_26 : decode cJ6_bitCount_0f7a4 26 = .ok (.iconst 4, 1) := by decide +kernel
theorem dJ6_bitCount_0f7a4_27 : decode cJ6_bitCount_0f7a4 27 = .ok (.iushr, 1) := by decide +kernel
theorem dJ6_bitCount_0f7a4_28 : decode cJ6_bitCount_0f7a4 28 = .ok (.iadd, 1) := by decide +kernel
theorem dJ6_bitCount_0f7a4_29 : decode cJ6_bitCount_0f7a4 29 = .ok (.ldc_w 267, 3) := by decide +kernel
theorem dJ6_bitCount_0f7a4_32 : decode cJ6_bitCount_0f7a4 32 = .ok (.iand, 1) := by decide +kernel
theorem dJ6_bitCount_0f7a4_33 : decode cJ6_bitCount_0f7a4 33 = .ok (.istore_n 0, 1) := by decide +kernel
theorem dJ6_bitCount_0f7a4_34 : decode cJ6_bitCount_0f7a4 34 = .ok (.iload_n 0, 1) := by decide +kernel
theorem dJ6_bitCount_0f7a4_35 : decode cJ6_bitCount_0f7a4 35 = .ok (.iload_n 0, 1) := by decide +kernel
theorem dJ6_bitCount_0f7a4_36 : decode cJ6_bitCount_0f7a4 36 = .ok (.bipush 8, 2) := by decide +kernel
theorem dJ6_bitCount_0f7a4_38 : decode cJ6_bitCount_0f7a4 38 = .ok (.iushr, 1) := by decide +kernel
theorem dJ6_bitCount_0f7a4_39 : decode cJ6_bitCount_0f7a4 39 = .ok (.iadd, 1) := by decide +kernel
theorem dJ6_bitCount_0f7a4_40 : decode cJ6_bitCount_0f7a4 40 = .ok (.istore_n 0, 1) := by decide +kernel
theorem dJ6_bitCount_0f7a4_41 : decode cJ6_bitCount_0f7a4 41 = .ok (.iload_n 0, 1) := by decide +kernel
theorem dJ6_bitCount_0f7a4_42 : decode cJ6_bitCount_0f7a4 42 = .ok (.iload_n 0, 1) := by decide +kernel
theorem dJ6_bitCount_0f7a4_43 : decode cJ6_bitCount_0f7a4 43 = .ok (.bipush 16, 2) := by decide +kernel
theorem dJ6_bitCount_0f7a4_45 : decode cJ6_bitCount_0f7a4 45 = .ok (.iushr, 1) := by decide +kernel
theorem dJ6_bitCount_0f7a4_46 : decode cJ6_bitCount_0f7a4 46 = .ok (.iadd, 1) := by decide +kernel
theorem dJ6_bitCount_0f7a4_47 : decode cJ6_bitCount_0f7a4 47 = .ok (.istore_n 0, 1) := by decide +kernel
theorem dJ6_bitCount_0f7a4_48 : decode cJ6_bitCount_0f7a4 48 = .ok (.iload_n 0, 1) := by decide +kernel
theorem dJ6_bitCount_0f7a4_49 : decode cJ6_bitCount_0f7a4 49 = .ok (.bipush 63, 2) := by decide +kernel
theorem dJ6_bitCount_0f7a4_51 : decode cJ6_bitCount_0f7a4 51 = .ok (.iand, 1) := by decide +kernel
theorem dJ6_bitCount_0f7a4_52 : decode cJ6_bitCount_0f7a4 52 = .ok (.ireturn, 1) := by decide +kernel
theorem dJ9_max_7cf53_0 : decode cJ9_max_7cf53 0 = .ok (.iload_n 0, 1) := by decide +kernel
theorem dJ9_max_7cf53_1 : decode cJ9_max_7cf53 1 = .ok (.iload_n 1, 1) := by decide +kernel
theorem dJ9_max_7cf53_2 : decode cJ9_max_7cf53 2 = .ok (.if_icmp .lt 7, 3) := by decide +kernel
theorem dJ9_max_7cf53_5 : decode cJ9_max_7cf53 5 = .ok (.iload_n 0, 1) := by decide +kernel
theorem dJ9_max_7cf53_6 : decode cJ9_max_7cf53 6 = .ok (.goto 4, 3) := by decide +kernel
theorem dJ9_max_7cf53_9 : decode cJ9_max_7cf53 9 = .ok (.iload_n 1, 1) := by decide +kernel
theorem dJ9_max_7cf53_10 : decode cJ9_max_7cf53 10 = .ok (.ireturn, 1) := by decide +kernel
theorem dJ9_min_7cf53_0 : decode cJ9_min_7cf53 0 = .ok (.iload_n 0, 1) := by decide +kernel
theorem dJ9_min_7cf53_1 : decode cJ9_min_7cf53 1 = .ok (.iload_n 1, 1) := by decide +kernel
theorem dJ9_min_7cf53_2 : decode cJ9_min_7cf53 2 = .ok (.if_icmp .gt 7, 3) := by decide +kernel
theorem dJ9_min_7cf53_5 : decode cJ9_min_7cf53 5 = .ok (.iload_n 0, 1) := by decide +kernel
theorem dJ9_min_7cf53_6 : decode cJ9_min_7cf53 6 = .ok (.goto 4, 3) := by decide +kernel
theorem dJ9_min_7cf53_9 : decode cJ9_min_7cf53 9 = .ok (.iload_n 1, 1) := by decide +kernel
theorem dJ9_min_7cf53_10 : decode cJ9_min_7cf53 10 = .ok (.ireturn, 1) := by decide +kernel
theorem dJ7_fill_d0a16_0 : decode cJ7_fill_d0a16 0 = .ok (.iconst 0, 1) := by decide +kernel
theorem dJ7_fill_d0a16_1 : decode cJ7_fill_d0a16 1 = .ok (.istore_n 3, 1) := by decide +kernel
theorem dJ7_fill_d0a16_2 : decode cJ7_fill_d0a16 2 = .ok (.aload_n 0, 1) := by decide +kernel
theorem dJ7_fill_d0a16_3 : decode cJ7_fill_d0a16 3 = .ok (.arraylength, 1) := by decide +kernel
theorem dJ7_fill_d0a16_4 : decode cJ7_fill_d0a16 4 = .ok (.istore 4, 2) := by decide +kernel
theorem dJ7_fill_d0a16_6 : decode cJ7_fill_d0a16 6 = .ok (.iload_n 3, 1) := by decide +kernel
theorem dJ7_fill_d0a16_7 : decode cJ7_fill_d0a16 7 = .ok (.iload 4, 2) := by decide +kernel
theorem dJ7_fill_d0a16_9 : decode cJ7_fill_d0a16 9 = .ok (.if_icmp .ge 13, 3) := by decide +kernel
theorem dJ7_fill_d0a16_12 : decode cJ7_fill_d0a16 12 = .ok (.aload_n 0, 1) := by decide +kernel
theorem dJ7_fill_d0a16_13 : decode cJ7_fill_d0a16 13 = .ok (.iload_n 3, 1) := by decide +kernel
theorem dJ7_fill_d0a16_14 : decode cJ7_fill_d0a16 14 = .ok (.lload_n 1, 1) := by decide +kernel
theorem dJ7_fill_d0a16_15 : decode cJ7_fill_d0a16 15 = .ok (.lastore, 1) := by decide +kernel
theorem dJ7_fill_d0a16_16 : decode cJ7_fill_d0a16 16 = .ok (.iinc 3 1, 3) := by decide +kernel
theorem dJ7_fill_d0a16_19 : decode cJ7_fill_d0a16 19 = .ok (.goto (-13), 3) := by decide +kernel
theorem dJ7_fill_d0a16_22 : decode cJ7_fill_d0a16 22 = .ok (.return_, 1) := by decide +kernel
theorem dJ7_fill_53178_0 : decode cJ7_fill_53178 0 = .ok (.iconst 0, 1) := by decide +kernel
theorem dJ7_fill_53178_1 : decode cJ7_fill_53178 1 = .ok (.istore_n 2, 1) := by decide +kernel
theorem dJ7_fill_53178_2 : decode cJ7_fill_53178 2 = .ok (.aload_n 0, 1) := by decide +kernel
theorem dJ7_fill_53178_3 : decode cJ7_fill_53178 3 = .ok (.arraylength, 1) := by decide +kernel
theorem dJ7_fill_53178_4 : decode cJ7_fill_53178 4 = .ok (.istore_n 3, 1) := by decide +kernel
theorem dJ7_fill_53178_5 : decode cJ7_fill_53178 5 = .ok (.iload_n 2, 1) := by decide +kernel
theorem dJ7_fill_53178_6 : decode cJ7_fill_53178 6 = .ok (.iload_n 3, 1) := by decide +kernel
theorem dJ7_fill_53178_7 : decode cJ7_fill_53178 7 = .ok (.if_icmp .ge 13, 3) := by decide +kernel
theorem dJ7_fill_53178_10 : decode cJ7_fill_53178 10 = .ok (.aload_n 0, 1) := by decide +kernel
theorem dJ7_fill_53178_11 : decode cJ7_fill_53178 11 = .ok (.iload_n 2, 1) := by decide +kernel
theorem dJ7_fill_53178_12 : decode cJ7_fill_53178 12 = .ok (.iload_n 1, 1) := by decide +kernel
theorem dJ7_fill_53178_13 : decode cJ7_fill_53178 13 = .ok (.iastore, 1) := by decide +kernel
theorem dJ7_fill_53178_14 : decode cJ7_fill_53178 14 = .ok (.iinc 2 1, 3) := by decide +kernel
theorem dJ7_fill_53178_17 : decode cJ7_fill_53178 17 = .ok (.goto (-12), 3) := by decide +kernel
theorem dJ7_fill_53178_20 : decode cJ7_fill_53178 20 = .ok (.return_, 1) := by decide +kernel
theorem dL_law_0 : decode cL_law 0 = .ok (.new 7, 3) := by decide +kernel
theorem dL_law_3 : decode cL_law 3 = .ok (.dup, 1) := by decide +kernel
theorem dL_law_4 : decode cL_law 4 = .ok (.invokespecial 9, 3) := by decide +kernel
theorem dL_law_7 : decode cL_law 7 = .ok (.astore_n 1, 1) := by decide +kernel
theorem dL_law_8 : decode cL_law 8 = .ok (.new 10, 3) := by decide +kernel
theorem dL_law_11 : decode cL_law 11 = .ok (.dup, 1) := by decide +kernel
theorem dL_law_12 : decode cL_law 12 = .ok (.invokespecial 12, 3) := by decide +kernel
theorem dL_law_15 : decode cL_law 15 = .ok (.astore_n 2, 1) := by decide +kernel
theorem dL_law_16 : decode cL_law 16 = .ok (.iconst 0, 1) := by decide +kernel
theorem dL_law_17 : decode cL_law 17 = .ok (.istore_n 3, 1) := by decide +kernel
theorem dL_law_18 : decode cL_law 18 = .ok (.iload_n 3, 1) := by decide +kernel
theorem dL_law_19 : decode cL_law 19 = .ok (.aload_n 0, 1) := by decide +kernel
theorem dL_law_20 : decode cL_law 20 = .ok (.arraylength, 1) := by decide +kernel
theorem dL_law_21 : decode cL_law 21 = .ok (.bipush 6, 2) := by decide +kernel
theorem dL_law_23 : decode cL_law 23 = .ok (.isub, 1) := by decide +kernel
theorem dL_law_24 : decode cL_law 24 = .ok (.if_icmp .gt 1082, 3) := by decide +kernel
theorem dL_law_27 : decode cL_law 27 = .ok (.aload_n 0, 1) := by decide +kernel
theorem dL_law_28 : decode cL_law 28 = .ok (.iload_n 3, 1) := by decide +kernel
theorem dL_law_29 : decode cL_law 29 = .ok (.iaload, 1) := by decide +kernel
theorem dL_law_30 : decode cL_law 30 = .ok (.bipush 63, 2) := by decide +kernel
theorem dL_law_32 : decode cL_law 32 = .ok (.iand, 1) := by decide +kernel
theorem dL_law_33 : decode cL_law 33 = .ok (.tableswitch 1067 0 33 #[151, 174, 187, 200, 213, 246, 269, 302, 325, 358, 391, 414, 437, 461, 495, 528, 571, 594, 627, 660, 683, 726, 749, 813, 867, 890, 903, 926, 939, 962, 975, 998, 1021, 1044], 151) := by decide +kernel
theorem dL_law_184 : decode cL_law 184 = .ok (.aload_n 1, 1) := by decide +kernel
theorem dL_law_185 : decode cL_law 185 = .ok (.aload_n 0, 1) := by decide +kernel
theorem dL_law_186 : decode cL_law 186 = .ok (.iload_n 3, 1) := by decide +kernel
theorem dL_law_187 : decode cL_law 187 = .ok (.iconst 1, 1) := by decide +kernel
theorem dL_law_188 : decode cL_law 188 = .ok (.iadd, 1) := by decide +kernel
theorem dL_law_189 : decode cL_law 189 = .ok (.iaload, 1) := by decide +kernel
theorem dL_law_190 : decode cL_law 190 = .ok (.invokevirtual 13, 3) := by decide +kernel
theorem dL_law_193 : decode cL_law 193 = .ok (.aload_n 2, 1) := by decide +kernel
theorem dL_law_194 : decode cL_law 194 = .ok (.aload_n 0, 1) := by decide +kernel
theorem dL_law_195 : decode cL_law 195 = .ok (.iload_n 3, 1) := by decide +kernel
theorem dL_law_196 : decode cL_law 196 = .ok (.iconst 1, 1) := by decide +kernel
theorem dL_law_197 : decode cL_law 197 = .ok (.iadd, 1) := by decide +kernel
theorem dL_law_198 : decode cL_law 198 = .ok (.iaload, 1) := by decide +kernel
theorem dL_law_199 : decode cL_law 199 = .ok (.invokevirtual 17, 3) := by decide +kernel
theorem dL_law_202 : decode cL_law 202 = .ok (.if_icmp .eq 898, 3) := by decide +kernel
theorem dL_law_205 : decode cL_law 205 = .ok (.iconst 0, 1) := by decide +kernel
theorem dL_law_206 : decode cL_law 206 = .ok (.ireturn, 1) := by decide +kernel
theorem dL_law_207 : decode cL_law 207 = .ok (.aload_n 1, 1) := by decide +kernel
theorem dL_law_208 : decode cL_law 208 = .ok (.invokevirtual 18, 3) := by decide +kernel
theorem dL_law_211 : decode cL_law 211 = .ok (.aload_n 2, 1) := by decide +kernel
theorem dL_law_212 : decode cL_law 212 = .ok (.invokevirtual 22, 3) := by decide +kernel
theorem dL_law_215 : decode cL_law 215 = .ok (.if_icmp .eq 885, 3) := by decide +kernel
theorem dL_law_218 : decode cL_law 218 = .ok (.iconst 0, 1) := by decide +kernel
theorem dL_law_219 : decode cL_law 219 = .ok (.ireturn, 1) := by decide +kernel
theorem dL_law_220 : decode cL_law 220 = .ok (.aload_n 1, 1) := by decide +kernel
theorem dL_law_221 : decode cL_law 221 = .ok (.invokevirtual 23, 3) := by decide +kernel
theorem dL_law_224 : decode cL_law 224 = .ok (.aload_n 2, 1) := by decide +kernel
theorem dL_law_225 : decode cL_law 225 = .ok (.invokevirtual 26, 3) := by decide +kernel
theorem dL_law_228 : decode cL_law 228 = .ok (.if_icmp .eq 872, 3) := by decide +kernel
theorem dL_law_231 : decode cL_law 231 = .ok (.iconst 0, 1) := by decide +kernel
theorem dL_law_232 : decode cL_law 232 = .ok (.ireturn, 1) := by decide +kernel
theorem dL_law_233 : decode cL_law 233 = .ok (.aload_n 1, 1) := by decide +kernel
theorem dL_law_234 : decode cL_law 234 = .ok (.invokevirtual 27, 3) := by decide +kernel
theorem dL_law_237 : decode cL_law 237 = .ok (.aload_n 2, 1) := by decide +kernel
theorem dL_law_238 : decode cL_law 238 = .ok (.invokevirtual 30, 3) := by decide +kernel
theorem dL_law_241 : decode cL_law 241 = .ok (.if_icmp .eq 859, 3) := by decide +kernel
theorem dL_law_244 : decode cL_law 244 = .ok (.iconst 0, 1) := by decide +kernel
theorem dL_law_245 : decode cL_law 245 = .ok (.ireturn, 1) := by decide +kernel
theorem dL_law_246 : decode cL_law 246 = .ok (.aload_n 1, 1) := by decide +kernel
theorem dL_law_247 : decode cL_law 247 = .ok (.aload_n 0, 1) := by decide +kernel
theorem dL_law_248 : decode cL_law 248 = .ok (.iload_n 3, 1) := by decide +kernel
theorem dL_law_249 : decode cL_law 249 = .ok (.iconst 1, 1) := by decide +kernel
theorem dL_law_250 : decode cL_law 250 = .ok (.iadd, 1) := by decide +kernel
theorem dL_law_251 : decode cL_law 251 = .ok (.iaload, 1) := by decide +kernel
theorem dL_law_252 : decode cL_law 252 = .ok (.aload_n 0, 1) := by decide +kernel
theorem dL_law_253 : decode cL_law 253 = .ok (.iload_n 3, 1) := by decide +kernel
theorem dL_law_254 : decode cL_law 254 = .ok (.iconst 2, 1) := by decide +kernel
theorem dL_law_255 : decode cL_law 255 = .ok (.iadd, 1) := by decide +kernel
theorem dL_law_256 : decode cL_law 256 = .ok (.iaload, 1) := by decide +kernel
theorem dL_law_257 : decode cL_law 257 = .ok (.invokevirtual 31, 3) := by decide +kernel
theorem dL_law_260 : decode cL_law 260 = .ok (.aload_n 2, 1) := by decide +kernel
theorem dL_law_261 : decode cL_law 261 = .ok (.aload_n 0, 1) := by decide +kernel
theorem dL_law_262 : decode cL_law 262 = .ok (.iload_n 3, 1) := by decide +kernel
theorem dL_law_263 : decode cL_law 263 = .ok (.iconst 1, 1) := by decide +kernel
theorem dL_law_264 : decode cL_law 264 = .ok (.iadd, 1) := by decide +kernel
theorem dL_law_265 : decode cL_law 265 = .ok (.iaload, 1) := by decide +kernel
theorem dL_law_266 : decode cL_law 266 = .ok (.aload_n 0, 1) := by decide +kernel
theorem dL_law_267 : decode cL_law 267 = .ok (.iload_n 3, 1) := by decide +kernel
theorem dL_law_268 : decode cL_law 268 = .ok (.iconst 2, 1) := by decide +kernel
theorem dL_law_269 : decode cL_law 269 = .ok (.iadd, 1) := by decide +kernel
theorem dL_law_270 : decode cL_law 270 = .ok (.iaload, 1) := by decide +kernel
theorem dL_law_271 : decode cL_law 271 = .ok (.invokevirtual 35, 3) := by decide +kernel
theorem dL_law_274 : decode cL_law 274 = .ok (.if_icmp .eq 826, 3) := by decide +kernel
theorem dL_law_277 : decode cL_law 277 = .ok (.iconst 0, 1) := by decide +kernel
theorem dL_law_278 : decode cL_law 278 = .ok (.ireturn, 1) := by decide +kernel
theorem dL_law_279 : decode cL_law 279 = .ok (.aload_n 1, 1) := by decide +kernel
theorem dL_law_280 : decode cL_law 280 = .ok (.aload_n 0, 1) := by decide +kernel
theorem dL_law_281 : decode cL_law 281 = .ok (.iload_n 3, 1) := by decide +kernel
theorem dL_law_282 : decode cL_law 282 = .ok (.iconst 1, 1) := by decide +kernel
theorem dL_law_283 : decode cL_law 283 = .ok (.iadd, 1) := by decide +kernel
theorem dL_law_284 : decode cL_law 284 = .ok (.iaload, 1) := by decide +kernel
theorem dL_law_285 : decode cL_law 285 = .ok (.invokevirtual 36, 3) := by decide +kernel
theorem dL_law_288 : decode cL_law 288 = .ok (.aload_n 2, 1) := by decide +kernel
theorem dL_law_289 : decode cL_law 289 = .ok (.aload_n 0, 1) := by decide +kernel
theorem dL_law_290 : decode cL_law 290 = .ok (.iload_n 3, 1) := by decide +kernel
theorem dL_law_291 : decode cL_law 291 = .ok (.iconst 1, 1) := by decide +kernel
theorem dL_law_292 : decode cL_law 292 = .ok (.iadd, 1) := by decide +kernel
theorem dL_law_293 : decode cL_law 293 = .ok (.iaload, 1) := by decide +kernel
theorem dL_law_294 : decode cL_law 294 = .ok (.invokevirtual 39, 3) := by decide +kernel
theorem dL_law_297 : decode cL_law 297 = .ok (.if_icmp .eq 803, 3) := by decide +kernel
theorem dL_law_300 : decode cL_law 300 = .ok (.iconst 0, 1) := by decide +kernel
theorem dL_law_301 : decode cL_law 301 = .ok (.ireturn, 1) := by decide +kernel
theorem dL_law_302 : decode cL_law 302 = .ok (.aload_n 1, 1) := by decide +kernel
theorem dL_law_303 : decode cL_law 303 = .ok (.aload_n 0, 1) := by decide +kernel
theorem dL_law_304 : decode cL_law 304 = .ok (.iload_n 3, 1) := by decide +kernel
theorem dL_law_305 : decode cL_law 305 = .ok (.iconst 1, 1) := by decide +kernel
theorem dL_law_306 : decode cL_law 306 = .ok (.iadd, 1) := by decide +kernel
theorem dL_law_307 : decode cL_law 307 = .ok (.iaload, 1) := by decide +kernel
theorem dL_law_308 : decode cL_law 308 = .ok (.aload_n 0, 1) := by decide +kernel
theorem dL_law_309 : decode cL_law 309 = .ok (.iload_n 3, 1) := by decide +kernel
theorem dL_law_310 : decode cL_law 310 = .ok (.iconst 2, 1) := by decide +kernel
theorem dL_law_311 : decode cL_law 311 = .ok (.iadd, 1) := by decide +kernel
theorem dL_law_312 : decode cL_law 312 = .ok (.iaload, 1) := by decide +kernel
theorem dL_law_313 : decode cL_law 313 = .ok (.invokevirtual 40, 3) := by decide +kernel
theorem dL_law_316 : decode cL_law 316 = .ok (.aload_n 2, 1) := by decide +kernel
theorem dL_law_317 : decode cL_law 317 = .ok (.aload_n 0, 1) := by decide +kernel
theorem dL_law_318 : decode cL_law 318 = .ok (.iload_n 3, 1) := by decide +kernel
theorem dL_law_319 : decode cL_law 319 = .ok (.iconst 1, 1) := by decide +kernel
theorem dL_law_320 : decode cL_law 320 = .ok (.iadd, 1) := by decide +kernel
theorem dL_law_321 : decode cL_law 321 = .ok (.iaload, 1) := by decide +kernel
theorem dL_law_322 : decode cL_law 322 = .ok (.aload_n 0, 1) := by decide +kernel
theorem dL_law_323 : decode cL_law 323 = .ok (.iload_n 3, 1) := by decide +kernel
theorem dL_law_324 : decode cL_law 324 = .ok (.iconst 2, 1) := by decide +kernel
theorem dL_law_325 : decode cL_law 325 = .ok (.iadd, 1) := by decide +kernel
theorem dL_law_326 : decode cL_law 326 = .ok (.iaload, 1) := by decide +kernel
theorem dL_law_327 : decode cL_law 327 = .ok (.invokevirtual 43, 3) := by decide +kernel
theorem dL_law_330 : decode cL_law 330 = .ok (.if_icmp .eq 770, 3) := by decide +kernel
theorem dL_law_333 : decode cL_law 333 = .ok (.iconst 0, 1) := by decide +kernel
theorem dL_law_334 : decode cL_law 334 = .ok (.ireturn, 1) := by decide +kernel
theorem dL_law_335 : decode cL_law 335 = .ok (.aload_n 1, 1) := by decide +kernel
theorem dL_law_336 : decode cL_law 336 = .ok (.aload_n 0, 1) := by decide +kernel
theorem dL_law_337 : decode cL_law 337 = .ok (.iload_n 3, 1) := by decide +kernel
theorem dL_law_338 : decode cL_law 338 = .ok (.iconst 1, 1) := by decide +kernel
theorem dL_law_339 : decode cL_law 339 = .ok (.iadd, 1) := by decide +kernel
theorem dL_law_340 : decode cL_law 340 = .ok (.iaload, 1) := by decide +kernel
theorem dL_law_341 : decode cL_law 341 = .ok (.invokevirtual 44, 3) := by decide +kernel
theorem dL_law_344 : decode cL_law 344 = .ok (.aload_n 2, 1) := by decide +kernel
theorem dL_law_345 : decode cL_law 345 = .ok (.aload_n 0, 1) := by decide +kernel
theorem dL_law_346 : decode cL_law 346 = .ok (.iload_n 3, 1) := by decide +kernel
theorem dL_law_347 : decode cL_law 347 = .ok (.iconst 1, 1) := by decide +kernel
theorem dL_law_348 : decode cL_law 348 = .ok (.iadd, 1) := by decide +kernel
theorem dL_law_349 : decode cL_law 349 = .ok (.iaload, 1) := by decide +kernel
theorem dL_law_350 : decode cL_law 350 = .ok (.invokevirtual 47, 3) := by decide +kernel
theorem dL_law_353 : decode cL_law 353 = .ok (.if_icmp .eq 747, 3) := by decide +kernel
theorem dL_law_356 : decode cL_law 356 = .ok (.iconst 0, 1) := by decide +kernel
theorem dL_law_357 : decode cL_law 357 = .ok (.ireturn, 1) := by decide +kernel
theorem dL_law_358 : decode cL_law 358 = .ok (.aload_n 1, 1) := by decide +kernel
theorem dL_law_359 : decode cL_law 359 = .ok (.aload_n 0, 1) := by decide +kernel
theorem dL_law_360 : decode cL_law 360 = .ok (.iload_n 3, 1) := by decide +kernel
theorem dL_law_361 : decode cL_law 361 = .ok (.iconst 1, 1) := by decide +kernel
theorem dL_law_362 : decode cL_law 362 = .ok (.iadd, 1) := by decide +kernel
theorem dL_law_363 : decode cL_law 363 = .ok (.iaload, 1) := by decide +kernel
theorem dL_law_364 : decode cL_law 364 = .ok (.aload_n 0, 1) := by decide +kernel
theorem dL_law_365 : decode cL_law 365 = .ok (.iload_n 3, 1) := by decide +kernel
theorem dL_law_366 : decode cL_law 366 = .ok (.iconst 2, 1) := by decide +kernel
theorem dL_law_367 : decode cL_law 367 = .ok (.iadd, 1) := by decide +kernel
theorem dL_law_368 : decode cL_law 368 = .ok (.iaload, 1) := by decide +kernel
theorem dL_law_369 : decode cL_law 369 = .ok (.invokevirtual 48, 3) := by decide +kernel
theorem dL_law_372 : decode cL_law 372 = .ok (.aload_n 2, 1) := by decide +kernel
theorem dL_law_373 : decode cL_law 373 = .ok (.aload_n 0, 1) := by decide +kernel
theorem dL_law_374 : decode cL_law 374 = .ok (.iload_n 3, 1) := by decide +kernel
theorem dL_law_375 : decode cL_law 375 = .ok (.iconst 1, 1) := by decide +kernel
theorem dL_law_376 : decode cL_law 376 = .ok (.iadd, 1) := by decide +kernel
theorem dL_law_377 : decode cL_law 377 = .ok (.iaload, 1) := by decide +kernel
theorem dL_law_378 : decode cL_law 378 = .ok (.aload_n 0, 1) := by decide +kernel
theorem dL_law_379 : decode cL_law 379 = .ok (.iload_n 3, 1) := by decide +kernel
theorem dL_law_380 : decode cL_law 380 = .ok (.iconst 2, 1) := by decide +kernel
theorem dL_law_381 : decode cL_law 381 = .ok (.iadd, 1) := by decide +kernel
theorem dL_law_382 : decode cL_law 382 = .ok (.iaload, 1) := by decide +kernel
theorem dL_law_383 : decode cL_law 383 = .ok (.invokevirtual 51, 3) := by decide +kernel
theorem dL_law_386 : decode cL_law 386 = .ok (.if_icmp .eq 714, 3) := by decide +kernel
theorem dL_law_389 : decode cL_law 389 = .ok (.iconst 0, 1) := by decide +kernel
theorem dL_law_390 : decode cL_law 390 = .ok (.ireturn, 1) := by decide +kernel
theorem dL_law_391 : decode cL_law 391 = .ok (.aload_n 1, 1) := by decide +kernel
theorem dL_law_392 : decode cL_law 392 = .ok (.aload_n 0, 1) := by decide +kernel
theorem dL_law_393 : decode cL_law 393 = .ok (.iload_n 3, 1) := by decide +kernel
theorem dL_law_394 : decode cL_law 394 = .ok (.iconst 1, 1) := by decide +kernel
theorem dL_law_395 : decode cL_law 395 = .ok (.iadd, 1) := by decide +kernel
theorem dL_law_396 : decode cL_law 396 = .ok (.iaload, 1) := by decide +kernel
theorem dL_law_397 : decode cL_law 397 = .ok (.aload_n 0, 1) := by decide +kernel
theorem dL_law_398 : decode cL_law 398 = .ok (.iload_n 3, 1) := by decide +kernel
theorem dL_law_399 : decode cL_law 399 = .ok (.iconst 2, 1) := by decide +kernel
theorem dL_law_400 : decode cL_law 400 = .ok (.iadd, 1) := by decide +kernel
theorem dL_law_401 : decode cL_law 401 = .ok (.iaload, 1) := by decide +kernel
theorem dL_law_402 : decode cL_law 402 = .ok (.invokevirtual 52, 3) := by decide +kernel
theorem dL_law_405 : decode cL_law 405 = .ok (.aload_n 2, 1) := by decide +kernel
theorem dL_law_406 : decode cL_law 406 = .ok (.aload_n 0, 1) := by decide +kernel
theorem dL_law_407 : decode cL_law 407 = .ok (.iload_n 3, 1) := by decide +kernel
theorem dL_law_408 : decode cL_law 408 = .ok (.iconst 1, 1) := by decide +kernel
theorem dL_law_409 : decode cL_law 409 = .ok (.iadd, 1) := by decide +kernel
theorem dL_law_410 : decode cL_law 410 = .ok (.iaload, 1) := by decide +kernel
theorem dL_law_411 : decode cL_law 411 = .ok (.aload_n 0, 1) := by decide +kernel
theorem dL_law_412 : decode cL_law 412 = .ok (.iload_n 3, 1) := by decide +kernel
theorem dL_law_413 : decode cL_law 413 = .ok (.iconst 2, 1) := by decide +kernel
theorem dL_law_414 : decode cL_law 414 = .ok (.iadd, 1) := by decide +kernel
theorem dL_law_415 : decode cL_law 415 = .ok (.iaload, 1) := by decide +kernel
theorem dL_law_416 : decode cL_law 416 = .ok (.invokevirtual 55, 3) := by decide +kernel
theorem dL_law_419 : decode cL_law 419 = .ok (.if_icmp .eq 681, 3) := by decide +kernel
theorem dL_law_422 : decode cL_law 422 = .ok (.iconst 0, 1) := by decide +kernel
theorem dL_law_423 : decode cL_law 423 = .ok (.ireturn, 1) := by decide +kernel
theorem dL_law_424 : decode cL_law 424 = .ok (.aload_n 1, 1) := by decide +kernel
theorem dL_law_425 : decode cL_law 425 = .ok (.aload_n 0, 1) := by decide +kernel
theorem dL_law_426 : decode cL_law 426 = .ok (.iload_n 3, 1) := by decide +kernel
theorem dL_law_427 : decode cL_law 427 = .ok (.iconst 1, 1) := by decide +kernel
theorem dL_law_428 : decode cL_law 428 = .ok (.iadd, 1) := by decide +kernel
theorem dL_law_429 : decode cL_law 429 = .ok (.iaload, 1) := by decide +kernel
theorem dL_law_430 : decode cL_law 430 = .ok (.invokevirtual 56, 3) := by decide +kernel
theorem dL_law_433 : decode cL_law 433 = .ok (.aload_n 2, 1) := by decide +kernel
theorem dL_law_434 : decode cL_law 434 = .ok (.aload_n 0, 1) := by decide +kernel
theorem dL_law_435 : decode cL_law 435 = .ok (.iload_n 3, 1) := by decide +kernel
theorem dL_law_436 : decode cL_law 436 = .ok (.iconst 1, 1) := by decide +kernel
theorem dL_law_437 : decode cL_law 437 = .ok (.iadd, 1) := by decide +kernel
theorem dL_law_438 : decode cL_law 438 = .ok (.iaload, 1) := by decide +kernel
theorem dL_law_439 : decode cL_law 439 = .ok (.invokevirtual 59, 3) := by decide +kernel
theorem dL_law_442 : decode cL_law 442 = .ok (.if_icmp .eq 658, 3) := by decide +kernel
theorem dL_law_445 : decode cL_law 445 = .ok (.iconst 0, 1) := by decide +kernel
theorem dL_law_446 : decode cL_law 446 = .ok (.ireturn, 1) := by decide +kernel
theorem dL_law_447 : decode cL_law 447 = .ok (.aload_n 1, 1) := by decide +kernel
theorem dL_law_448 : decode cL_law 448 = .ok (.aload_n 0, 1) := by decide +kernel
theorem dL_law_449 : decode cL_law 449 = .ok (.iload_n 3, 1) := by decide +kernel
theorem dL_law_450 : decode cL_law 450 = .ok (.iconst 1, 1) := by decide +kernel
theorem dL_law_451 : decode cL_law 451 = .ok (.iadd, 1) := by decide +kernel
theorem dL_law_452 : decode cL_law 452 = .ok (.iaload, 1) := by decide +kernel
theorem dL_law_453 : decode cL_law 453 = .ok (.invokevirtual 60, 3) := by decide +kernel
theorem dL_law_456 : decode cL_law 456 = .ok (.aload_n 2, 1) := by decide +kernel
theorem dL_law_457 : decode cL_law 457 = .ok (.aload_n 0, 1) := by decide +kernel
theorem dL_law_458 : decode cL_law 458 = .ok (.iload_n 3, 1) := by decide +kernel
theorem dL_law_459 : decode cL_law 459 = .ok (.iconst 1, 1) := by decide +kernel
theorem dL_law_460 : decode cL_law 460 = .ok (.iadd, 1) := by decide +kernel
theorem dL_law_461 : decode cL_law 461 = .ok (.iaload, 1) := by decide +kernel
theorem dL_law_462 : decode cL_law 462 = .ok (.invokevirtual 63, 3) := by decide +kernel
theorem dL_law_465 : decode cL_law 465 = .ok (.if_icmp .eq 635, 3) := by decide +kernel
theorem dL_law_468 : decode cL_law 468 = .ok (.iconst 0, 1) := by decide +kernel
theorem dL_law_469 : decode cL_law 469 = .ok (.ireturn, 1) := by decide +kernel
theorem dL_law_470 : decode cL_law 470 = .ok (.aload_n 1, 1) := by decide +kernel
theorem dL_law_471 : decode cL_law 471 = .ok (.aload_n 0, 1) := by decide +kernel
theorem dL_law_472 : decode cL_law 472 = .ok (.iload_n 3, 1) := by decide +kernel
theorem dL_law_473 : decode cL_law 473 = .ok (.iconst 1, 1) := by decide +kernel
theorem dL_law_474 : decode cL_law 474 = .ok (.iadd, 1) := by decide +kernel
theorem dL_law_475 : decode cL_law 475 = .ok (.iaload, 1) := by decide +kernel
theorem dL_law_476 : decode cL_law 476 = .ok (.invokevirtual 64, 3) := by decide +kernel
theorem dL_law_479 : decode cL_law 479 = .ok (.aload_n 2, 1) := by decide +kernel
theorem dL_law_480 : decode cL_law 480 = .ok (.aload_n 0, 1) := by decide +kernel
theorem dL_law_481 : decode cL_law 481 = .ok (.iload_n 3, 1) := by decide +kernel
theorem dL_law_482 : decode cL_law 482 = .ok (.iconst 1, 1) := by decide +kernel
theorem dL_law_483 : decode cL_law 483 = .ok (.iadd, 1) := by decide +kernel
theorem dL_law_484 : decode cL_law 484 = .ok (.iaload, 1) := by decide +kernel
theorem dL_law_485 : decode cL_law 485 = .ok (.invokevirtual 68, 3) := by decide +kernel
theorem dL_law_488 : decode cL_law 488 = .ok (.lcmp, 1) := by decide +kernel
theorem dL_law_489 : decode cL_law 489 = .ok (.ifCond .eq 611, 3) := by decide +kernel
theorem dL_law_492 : decode cL_law 492 = .ok (.iconst 0, 1) := by decide +kernel
theorem dL_law_493 : decode cL_law 493 = .ok (.ireturn, 1) := by decide +kernel
theorem dL_law_494 : decode cL_law 494 = .ok (.aload_n 1, 1) := by decide +kernel
theorem dL_law_495 : decode cL_law 495 = .ok (.aload_n 0, 1) := by decide +kernel
theorem dL_law_496 : decode cL_law 496 = .ok (.iload_n 3, 1) := by decide +kernel
theorem dL_law_497 : decode cL_law 497 = .ok (.iconst 1, 1) := by decide +kernel
theorem dL_law_498 : decode cL_law 498 = .ok (.iadd, 1) := by decide +kernel
theorem dL_law_499 : decode cL_law 499 = .ok (.iaload, 1) := by decide +kernel
theorem dL_law_500 : decode cL_law 500 = .ok (.aload_n 0, 1) := by decide +kernel
theorem dL_law_501 : decode cL_law 501 = .ok (.iload_n 3, 1) := by decide +kernel
theorem dL_law_502 : decode cL_law 502 = .ok (.iconst 2, 1) := by decide +kernel
theorem dL_law_503 : decode cL_law 503 = .ok (.iadd, 1) := by decide +kernel
theorem dL_law_504 : decode cL_law 504 = .ok (.iaload, 1) := by decide +kernel
theorem dL_law_505 : decode cL_law 505 = .ok (.invokevirtual 69, 3) := by decide +kernel
theorem dL_law_508 : decode cL_law 508 = .ok (.aload_n 2, 1) := by decide +kernel
theorem dL_law_509 : decode cL_law 509 = .ok (.aload_n 0, 1) := by decide +kernel
theorem dL_law_510 : decode cL_law 510 = .ok (.iload_n 3, 1) := by decide +kernel
theorem dL_law_511 : decode cL_law 511 = .ok (.iconst 1, 1) := by decide +kernel
theorem dL_law_512 : decode cL_law 512 = .ok (.iadd, 1) := by decide +kernel
theorem dL_law_513 : decode cL_law 513 = .ok (.iaload, 1) := by decide +kernel
theorem dL_law_514 : decode cL_law 514 = .ok (.aload_n 0, 1) := by decide +kernel
theorem dL_law_515 : decode cL_law 515 = .ok (.iload_n 3, 1) := by decide +kernel
theorem dL_law_516 : decode cL_law 516 = .ok (.iconst 2, 1) := by decide +kernel
theorem dL_law_517 : decode cL_law 517 = .ok (.iadd, 1) := by decide +kernel
theorem dL_law_518 : decode cL_law 518 = .ok (.iaload, 1) := by decide +kernel
theorem dL_law_519 : decode cL_law 519 = .ok (.invokevirtual 73, 3) := by decide +kernel
theorem dL_law_522 : decode cL_law 522 = .ok (.lcmp, 1) := by decide +kernel
theorem dL_law_523 : decode cL_law 523 = .ok (.ifCond .eq 577, 3) := by decide +kernel
theorem dL_law_526 : decode cL_law 526 = .ok (.iconst 0, 1) := by decide +kernel
theorem dL_law_527 : decode cL_law 527 = .ok (.ireturn, 1) := by decide +kernel
theorem dL_law_528 : decode cL_law 528 = .ok (.aload_n 1, 1) := by decide +kernel
theorem dL_law_529 : decode cL_law 529 = .ok (.aload_n 0, 1) := by decide +kernel
theorem dL_law_530 : decode cL_law 530 = .ok (.iload_n 3, 1) := by decide +kernel
theorem dL_law_531 : decode cL_law 531 = .ok (.iconst 1, 1) := by decide +kernel
theorem dL_law_532 : decode cL_law 532 = .ok (.iadd, 1) := by decide +kernel
theorem dL_law_533 : decode cL_law 533 = .ok (.iaload, 1) := by decide +kernel
theorem dL_law_534 : decode cL_law 534 = .ok (.aload_n 0, 1) := by decide +kernel
theorem dL_law_535 : decode cL_law 535 = .ok (.iload_n 3, 1) := by decide +kernel
theorem dL_law_536 : decode cL_law 536 = .ok (.iconst 2, 1) := by decide +kernel
theorem dL_law_537 : decode cL_law 537 = .ok (.iadd, 1) := by decide +kernel
theorem dL_law_538 : decode cL_law 538 = .ok (.iaload, 1) := by decide +kernel
theorem dL_law_539 : decode cL_law 539 = .ok (.invokevirtual 74, 3) := by decide +kernel
theorem dL_law_542 : decode cL_law 542 = .ok (.aload_n 2, 1) := by decide +kernel
theorem dL_law_543 : decode cL_law 543 = .ok (.aload_n 0, 1) := by decide +kernel
theorem dL_law_544 : decode cL_law 544 = .ok (.iload_n 3, 1) := by decide +kernel
theorem dL_law_545 : decode cL_law 545 = .ok (.iconst 1, 1) := by decide +kernel
theorem dL_law_546 : decode cL_law 546 = .ok (.iadd, 1) := by decide +kernel
theorem dL_law_547 : decode cL_law 547 = .ok (.iaload, 1) := by decide +kernel
theorem dL_law_548 : decode cL_law 548 = .ok (.aload_n 0, 1) := by decide +kernel
theorem dL_law_549 : decode cL_law 549 = .ok (.iload_n 3, 1) := by decide +kernel
theorem dL_law_550 : decode cL_law 550 = .ok (.iconst 2, 1) := by decide +kernel
theorem dL_law_551 : decode cL_law 551 = .ok (.iadd, 1) := by decide +kernel
theorem dL_law_552 : decode cL_law 552 = .ok (.iaload, 1) := by decide +kernel
theorem dL_law_553 : decode cL_law 553 = .ok (.invokevirtual 77, 3) := by decide +kernel
theorem dL_law_556 : decode cL_law 556 = .ok (.if_icmp .eq 544, 3) := by decide +kernel
theorem dL_law_559 : decode cL_law 559 = .ok (.iconst 0, 1) := by decide +kernel
theorem dL_law_560 : decode cL_law 560 = .ok (.ireturn, 1) := by decide +kernel
theorem dL_law_561 : decode cL_law 561 = .ok (.aload_n 1, 1) := by decide +kernel
theorem dL_law_562 : decode cL_law 562 = .ok (.aload_n 0, 1) := by decide +kernel
theorem dL_law_563 : decode cL_law 563 = .ok (.iload_n 3, 1) := by decide +kernel
theorem dL_law_564 : decode cL_law 564 = .ok (.iconst 1, 1) := by decide +kernel
theorem dL_law_565 : decode cL_law 565 = .ok (.iadd, 1) := by decide +kernel
theorem dL_law_566 : decode cL_law 566 = .ok (.iaload, 1) := by decide +kernel
theorem dL_law_567 : decode cL_law 567 = .ok (.aload_n 0, 1) := by decide +kernel
theorem dL_law_568 : decode cL_law 568 = .ok (.iload_n 3, 1) := by decide +kernel
theorem dL_law_569 : decode cL_law 569 = .ok (.iconst 2, 1) := by decide +kernel
theorem dL_law_570 : decode cL_law 570 = .ok (.iadd, 1) := by decide +kernel
theorem dL_law_571 : decode cL_law 571 = .ok (.iaload, 1) := by decide +kernel
theorem dL_law_572 : decode cL_law 572 = .ok (.aload_n 0, 1) := by decide +kernel
theorem dL_law_573 : decode cL_law 573 = .ok (.iload_n 3, 1) := by decide +kernel
theorem dL_law_574 : decode cL_law 574 = .ok (.iconst 3, 1) := by decide +kernel
theorem dL_law_575 : decode cL_law 575 = .ok (.iadd, 1) := by decide +kernel
theorem dL_law_576 : decode cL_law 576 = .ok (.iaload, 1) := by decide +kernel
theorem dL_law_577 : decode cL_law 577 = .ok (.invokevirtual 78, 3) := by decide +kernel
theorem dL_law_580 : decode cL_law 580 = .ok (.aload_n 2, 1) := by decide +kernel
theorem dL_law_581 : decode cL_law 581 = .ok (.aload_n 0, 1) := by decide +kernel
theorem dL_law_582 : decode cL_law 582 = .ok (.iload_n 3, 1) := by decide +kernel
theorem dL_law_583 : decode cL_law 583 = .ok (.iconst 1, 1) := by decide +kernel
theorem dL_law_584 : decode cL_law 584 = .ok (.iadd, 1) := by decide +kernel
theorem dL_law_585 : decode cL_law 585 = .ok (.iaload, 1) := by decide +kernel
theorem dL_law_586 : decode cL_law 586 = .ok (.aload_n 0, 1) := by decide +kernel
theorem dL_law_587 : decode cL_law 587 = .ok (.iload_n 3, 1) := by decide +kernel
theorem dL_law_588 : decode cL_law 588 = .ok (.iconst 2, 1) := by decide +kernel
theorem dL_law_589 : decode cL_law 589 = .ok (.iadd, 1) := by decide +kernel
theorem dL_law_590 : decode cL_law 590 = .ok (.iaload, 1) := by decide +kernel
theorem dL_law_591 : decode cL_law 591 = .ok (.aload_n 0, 1) := by decide +kernel
theorem dL_law_592 : decode cL_law 592 = .ok (.iload_n 3, 1) := by decide +kernel
theorem dL_law_593 : decode cL_law 593 = .ok (.iconst 3, 1) := by decide +kernel
theorem dL_law_594 : decode cL_law 594 = .ok (.iadd, 1) := by decide +kernel
theorem dL_law_595 : decode cL_law 595 = .ok (.iaload, 1) := by decide +kernel
theorem dL_law_596 : decode cL_law 596 = .ok (.invokevirtual 82, 3) := by decide +kernel
theorem dL_law_599 : decode cL_law 599 = .ok (.if_icmp .eq 501, 3) := by decide +kernel
theorem dL_law_602 : decode cL_law 602 = .ok (.iconst 0, 1) := by decide +kernel
theorem dL_law_603 : decode cL_law 603 = .ok (.ireturn, 1) := by decide +kernel
theorem dL_law_604 : decode cL_law 604 = .ok (.aload_n 1, 1) := by decide +kernel
theorem dL_law_605 : decode cL_law 605 = .ok (.aload_n 0, 1) := by decide +kernel
theorem dL_law_606 : decode cL_law 606 = .ok (.iload_n 3, 1) := by decide +kernel
theorem dL_law_607 : decode cL_law 607 = .ok (.iconst 1, 1) := by decide +kernel
theorem dL_law_608 : decode cL_law 608 = .ok (.iadd, 1) := by decide +kernel
theorem dL_law_609 : decode cL_law 609 = .ok (.iaload, 1) := by decide +kernel
theorem dL_law_610 : decode cL_law 610 = .ok (.invokevirtual 83, 3) := by decide +kernel
theorem dL_law_613 : decode cL_law 613 = .ok (.aload_n 2, 1) := by decide +kernel
theorem dL_law_614 : decode cL_law 614 = .ok (.aload_n 0, 1) := by decide +kernel
theorem dL_law_615 : decode cL_law 615 = .ok (.iload_n 3, 1) := by decide +kernel
theorem dL_law_616 : decode cL_law 616 = .ok (.iconst 1, 1) := by decide +kernel
theorem dL_law_617 : decode cL_law 617 = .ok (.iadd, 1) := by decide +kernel
theorem dL_law_618 : decode cL_law 618 = .ok (.iaload, 1) := by decide +kernel
theorem dL_law_619 : decode cL_law 619 = .ok (.invokevirtual 86, 3) := by decide +kernel
theorem dL_law_622 : decode cL_law 622 = .ok (.if_icmp .eq 478, 3) := by decide +kernel
theorem dL_law_625 : decode cL_law 625 = .ok (.iconst 0, 1) := by decide +kernel
theorem dL_law_626 : decode cL_law 626 = .ok (.ireturn, 1) := by decide +kernel
theorem dL_law_627 : decode cL_law 627 = .ok (.aload_n 1, 1) := by decide +kernel
theorem dL_law_628 : decode cL_law 628 = .ok (.aload_n 0, 1) := by decide +kernel
theorem dL_law_629 : decode cL_law 629 = .ok (.iload_n 3, 1) := by decide +kernel
theorem dL_law_630 : decode cL_law 630 = .ok (.iconst 1, 1) := by decide +kernel
theorem dL_law_631 : decode cL_law 631 = .ok (.iadd, 1) := by decide +kernel
theorem dL_law_632 : decode cL_law 632 = .ok (.iaload, 1) := by decide +kernel
theorem dL_law_633 : decode cL_law 633 = .ok (.aload_n 0, 1) := by decide +kernel
theorem dL_law_634 : decode cL_law 634 = .ok (.iload_n 3, 1) := by decide +kernel
theorem dL_law_635 : decode cL_law 635 = .ok (.iconst 2, 1) := by decide +kernel
theorem dL_law_636 : decode cL_law 636 = .ok (.iadd, 1) := by decide +kernel
theorem dL_law_637 : decode cL_law 637 = .ok (.iaload, 1) := by decide +kernel
theorem dL_law_638 : decode cL_law 638 = .ok (.invokevirtual 87, 3) := by decide +kernel
theorem dL_law_641 : decode cL_law 641 = .ok (.aload_n 2, 1) := by decide +kernel
theorem dL_law_642 : decode cL_law 642 = .ok (.aload_n 0, 1) := by decide +kernel
theorem dL_law_643 : decode cL_law 643 = .ok (.iload_n 3, 1) := by decide +kernel
theorem dL_law_644 : decode cL_law 644 = .ok (.iconst 1, 1) := by decide +kernel
theorem dL_law_645 : decode cL_law 645 = .ok (.iadd, 1) := by decide +kernel
theorem dL_law_646 : decode cL_law 646 = .ok (.iaload, 1) := by decide +kernel
theorem dL_law_647 : decode cL_law 647 = .ok (.aload_n 0, 1) := by decide +kernel
theorem dL_law_648 : decode cL_law 648 = .ok (.iload_n 3, 1) := by decide +kernel
theorem dL_law_649 : decode cL_law 649 = .ok (.iconst 2, 1) := by decide +kernel
theorem dL_law_650 : decode cL_law 650 = .ok (.iadd, 1) := by decide +kernel
theorem dL_law_651 : decode cL_law 651 = .ok (.iaload, 1) := by decide +kernel
theorem dL_law_652 : decode cL_law 652 = .ok (.invokevirtual 90, 3) := by decide +kernel
theorem dL_law_655 : decode cL_law 655 = .ok (.if_icmp .eq 445, 3) := by decide +kernel
theorem dL_law_658 : decode cL_law 658 = .ok (.iconst 0, 1) := by decide +kernel
theorem dL_law_659 : decode cL_law 659 = .ok (.ireturn, 1) := by decide +kernel
theorem dL_law_660 : decode cL_law 660 = .ok (.aload_n 1, 1) := by decide +kernel
theorem dL_law_661 : decode cL_law 661 = .ok (.aload_n 0, 1) := by decide +kernel
theorem dL_law_662 : decode cL_law 662 = .ok (.iload_n 3, 1) := by decide +kernel
theorem dL_law_663 : decode cL_law 663 = .ok (.iconst 1, 1) := by decide +kernel
theorem dL_law_664 : decode cL_law 664 = .ok (.iadd, 1) := by decide +kernel
theorem dL_law_665 : decode cL_law 665 = .ok (.iaload, 1) := by decide +kernel
theorem dL_law_666 : decode cL_law 666 = .ok (.aload_n 0, 1) := by decide +kernel
theorem dL_law_667 : decode cL_law 667 = .ok (.iload_n 3, 1) := by decide +kernel
theorem dL_law_668 : decode cL_law 668 = .ok (.iconst 2, 1) := by decide +kernel
theorem dL_law_669 : decode cL_law 669 = .ok (.iadd, 1) := by decide +kernel
theorem dL_law_670 : decode cL_law 670 = .ok (.iaload, 1) := by decide +kernel
theorem dL_law_671 : decode cL_law 671 = .ok (.invokevirtual 91, 3) := by decide +kernel
theorem dL_law_674 : decode cL_law 674 = .ok (.aload_n 2, 1) := by decide +kernel
theorem dL_law_675 : decode cL_law 675 = .ok (.aload_n 0, 1) := by decide +kernel
theorem dL_law_676 : decode cL_law 676 = .ok (.iload_n 3, 1) := by decide +kernel
theorem dL_law_677 : decode cL_law 677 = .ok (.iconst 1, 1) := by decide +kernel
theorem dL_law_678 : decode cL_law 678 = .ok (.iadd, 1) := by decide +kernel
theorem dL_law_679 : decode cL_law 679 = .ok (.iaload, 1) := by decide +kernel
theorem dL_law_680 : decode cL_law 680 = .ok (.aload_n 0, 1) := by decide +kernel
theorem dL_law_681 : decode cL_law 681 = .ok (.iload_n 3, 1) := by decide +kernel
theorem dL_law_682 : decode cL_law 682 = .ok (.iconst 2, 1) := by decide +kernel
theorem dL_law_683 : decode cL_law 683 = .ok (.iadd, 1) := by decide +kernel
theorem dL_law_684 : decode cL_law 684 = .ok (.iaload, 1) := by decide +kernel
theorem dL_law_685 : decode cL_law 685 = .ok (.invokevirtual 94, 3) := by decide +kernel
theorem dL_law_688 : decode cL_law 688 = .ok (.if_icmp .eq 412, 3) := by decide +kernel
theorem dL_law_691 : decode cL_law 691 = .ok (.iconst 0, 1) := by decide +kernel
theorem dL_law_692 : decode cL_law 692 = .ok (.ireturn, 1) := by decide +kernel
theorem dL_law_693 : decode cL_law 693 = .ok (.aload_n 1, 1) := by decide +kernel
theorem dL_law_694 : decode cL_law 694 = .ok (.aload_n 0, 1) := by decide +kernel
theorem dL_law_695 : decode cL_law 695 = .ok (.iload_n 3, 1) := by decide +kernel
theorem dL_law_696 : decode cL_law 696 = .ok (.iconst 1, 1) := by decide +kernel
theorem dL_law_697 : decode cL_law 697 = .ok (.iadd, 1) := by decide +kernel
theorem dL_law_698 : decode cL_law 698 = .ok (.iaload, 1) := by decide +kernel
theorem dL_law_699 : decode cL_law 699 = .ok (.invokevirtual 95, 3) := by decide +kernel
theorem dL_law_702 : decode cL_law 702 = .ok (.aload_n 2, 1) := by decide +kernel
theorem dL_law_703 : decode cL_law 703 = .ok (.aload_n 0, 1) := by decide +kernel
theorem dL_law_704 : decode cL_law 704 = .ok (.iload_n 3, 1) := by decide +kernel
theorem dL_law_705 : decode cL_law 705 = .ok (.iconst 1, 1) := by decide +kernel
theorem dL_law_706 : decode cL_law 706 = .ok (.iadd, 1) := by decide +kernel
theorem dL_law_707 : decode cL_law 707 = .ok (.iaload, 1) := by decide +kernel
theorem dL_law_708 : decode cL_law 708 = .ok (.invokevirtual 98, 3) := by decide +kernel
theorem dL_law_711 : decode cL_law 711 = .ok (.if_icmp .eq 389, 3) := by decide +kernel
theorem dL_law_714 : decode cL_law 714 = .ok (.iconst 0, 1) := by decide +kernel
theorem dL_law_715 : decode cL_law 715 = .ok (.ireturn, 1) := by decide +kernel
theorem dL_law_716 : decode cL_law 716 = .ok (.aload_n 1, 1) := by decide +kernel
theorem dL_law_717 : decode cL_law 717 = .ok (.aload_n 0, 1) := by decide +kernel
theorem dL_law_718 : decode cL_law 718 = .ok (.iload_n 3, 1) := by decide +kernel
theorem dL_law_719 : decode cL_law 719 = .ok (.iconst 1, 1) := by decide +kernel
theorem dL_law_720 : decode cL_law 720 = .ok (.iadd, 1) := by decide +kernel
theorem dL_law_721 : decode cL_law 721 = .ok (.iaload, 1) := by decide +kernel
theorem dL_law_722 : decode cL_law 722 = .ok (.aload_n 0, 1) := by decide +kernel
theorem dL_law_723 : decode cL_law 723 = .ok (.iload_n 3, 1) := by decide +kernel
theorem dL_law_724 : decode cL_law 724 = .ok (.iconst 2, 1) := by decide +kernel
theorem dL_law_725 : decode cL_law 725 = .ok (.iadd, 1) := by decide +kernel
theorem dL_law_726 : decode cL_law 726 = .ok (.iaload, 1) := by decide +kernel
theorem dL_law_727 : decode cL_law 727 = .ok (.aload_n 0, 1) := by decide +kernel
theorem dL_law_728 : decode cL_law 728 = .ok (.iload_n 3, 1) := by decide +kernel
theorem dL_law_729 : decode cL_law 729 = .ok (.iconst 3, 1) := by decide +kernel
theorem dL_law_730 : decode cL_law 730 = .ok (.iadd, 1) := by decide +kernel
theorem dL_law_731 : decode cL_law 731 = .ok (.iaload, 1) := by decide +kernel
theorem dL_law_732 : decode cL_law 732 = .ok (.invokevirtual 99, 3) := by decide +kernel
theorem dL_law_735 : decode cL_law 735 = .ok (.aload_n 2, 1) := by decide +kernel
theorem dL_law_736 : decode cL_law 736 = .ok (.aload_n 0, 1) := by decide +kernel
theorem dL_law_737 : decode cL_law 737 = .ok (.iload_n 3, 1) := by decide +kernel
theorem dL_law_738 : decode cL_law 738 = .ok (.iconst 1, 1) := by decide +kernel
theorem dL_law_739 : decode cL_law 739 = .ok (.iadd, 1) := by decide +kernel
theorem dL_law_740 : decode cL_law 740 = .ok (.iaload, 1) := by decide +kernel
theorem dL_law_741 : decode cL_law 741 = .ok (.aload_n 0, 1) := by decide +kernel
theorem dL_law_742 : decode cL_law 742 = .ok (.iload_n 3, 1) := by decide +kernel
theorem dL_law_743 : decode cL_law 743 = .ok (.iconst 2, 1) := by decide +kernel
theorem dL_law_744 : decode cL_law 744 = .ok (.iadd, 1) := by decide +kernel
theorem dL_law_745 : decode cL_law 745 = .ok (.iaload, 1) := by decide +kernel
theorem dL_law_746 : decode cL_law 746 = .ok (.aload_n 0, 1) := by decide +kernel
theorem dL_law_747 : decode cL_law 747 = .ok (.iload_n 3, 1) := by decide +kernel
theorem dL_law_748 : decode cL_law 748 = .ok (.iconst 3, 1) := by decide +kernel
theorem dL_law_749 : decode cL_law 749 = .ok (.iadd, 1) := by decide +kernel
theorem dL_law_750 : decode cL_law 750 = .ok (.iaload, 1) := by decide +kernel
theorem dL_law_751 : decode cL_law 751 = .ok (.invokevirtual 102, 3) := by decide +kernel
theorem dL_law_754 : decode cL_law 754 = .ok (.if_icmp .eq 346, 3) := by decide +kernel
theorem dL_law_757 : decode cL_law 757 = .ok (.iconst 0, 1) := by decide +kernel
theorem dL_law_758 : decode cL_law 758 = .ok (.ireturn, 1) := by decide +kernel
theorem dL_law_759 : decode cL_law 759 = .ok (.aload_n 1, 1) := by decide +kernel
theorem dL_law_760 : decode cL_law 760 = .ok (.aload_n 0, 1) := by decide +kernel
theorem dL_law_761 : decode cL_law 761 = .ok (.iload_n 3, 1) := by decide +kernel
theorem dL_law_762 : decode cL_law 762 = .ok (.iconst 1, 1) := by decide +kernel
theorem dL_law_763 : decode cL_law 763 = .ok (.iadd, 1) := by decide +kernel
theorem dL_law_764 : decode cL_law 764 = .ok (.iaload, 1) := by decide +kernel
theorem dL_law_765 : decode cL_law 765 = .ok (.invokevirtual 103, 3) := by decide +kernel
theorem dL_law_768 : decode cL_law 768 = .ok (.aload_n 2, 1) := by decide +kernel
theorem dL_law_769 : decode cL_law 769 = .ok (.aload_n 0, 1) := by decide +kernel
theorem dL_law_770 : decode cL_law 770 = .ok (.iload_n 3, 1) := by decide +kernel
theorem dL_law_771 : decode cL_law 771 = .ok (.iconst 1, 1) := by decide +kernel
theorem dL_law_772 : decode cL_law 772 = .ok (.iadd, 1) := by decide +kernel
theorem dL_law_773 : decode cL_law 773 = .ok (.iaload, 1) := by decide +kernel
theorem dL_law_774 : decode cL_law 774 = .ok (.invokevirtual 106, 3) := by decide +kernel
theorem dL_law_777 : decode cL_law 777 = .ok (.if_icmp .eq 323, 3) := by decide +kernel
theorem dL_law_780 : decode cL_law 780 = .ok (.iconst 0, 1) := by decide +kernel
theorem dL_law_781 : decode cL_law 781 = .ok (.ireturn, 1) := by decide +kernel
theorem dL_law_782 : decode cL_law 782 = .ok (.aload_n 1, 1) := by decide +kernel
theorem dL_law_783 : decode cL_law 783 = .ok (.aload_n 0, 1) := by decide +kernel
theorem dL_law_784 : decode cL_law 784 = .ok (.iload_n 3, 1) := by decide +kernel
theorem dL_law_785 : decode cL_law 785 = .ok (.iconst 1, 1) := by decide +kernel
theorem dL_law_786 : decode cL_law 786 = .ok (.iadd, 1) := by decide +kernel
theorem dL_law_787 : decode cL_law 787 = .ok (.iaload, 1) := by decide +kernel
theorem dL_law_788 : decode cL_law 788 = .ok (.aload_n 0, 1) := by decide +kernel
theorem dL_law_789 : decode cL_law 789 = .ok (.iload_n 3, 1) := by decide +kernel
theorem dL_law_790 : decode cL_law 790 = .ok (.iconst 2, 1) := by decide +kernel
theorem dL_law_791 : decode cL_law 791 = .ok (.iadd, 1) := by decide +kernel
theorem dL_law_792 : decode cL_law 792 = .ok (.iaload, 1) := by decide +kernel
theorem dL_law_793 : decode cL_law 793 = .ok (.aload_n 0, 1) := by decide +kernel
theorem dL_law_794 : decode cL_law 794 = .ok (.iload_n 3, 1) := by decide +kernel
theorem dL_law_795 : decode cL_law 795 = .ok (.iconst 3, 1) := by decide +kernel
theorem dL_law_796 : decode cL_law 796 = .ok (.iadd, 1) := by decide +kernel
theorem dL_law_797 : decode cL_law 797 = .ok (.iaload, 1) := by decide +kernel
theorem dL_law_798 : decode cL_law 798 = .ok (.aload_n 0, 1) := by decide +kernel
theorem dL_law_799 : decode cL_law 799 = .ok (.iload_n 3, 1) := by decide +kernel
theorem dL_law_800 : decode cL_law 800 = .ok (.iconst 4, 1) := by decide +kernel
theorem dL_law_801 : decode cL_law 801 = .ok (.iadd, 1) := by decide +kernel
theorem dL_law_802 : decode cL_law 802 = .ok (.iaload, 1) := by decide +kernel
theorem dL_law_803 : decode cL_law 803 = .ok (.aload_n 0, 1) := by decide +kernel
theorem dL_law_804 : decode cL_law 804 = .ok (.iload_n 3, 1) := by decide +kernel
theorem dL_law_805 : decode cL_law 805 = .ok (.iconst 5, 1) := by decide +kernel
theorem dL_law_806 : decode cL_law 806 = .ok (.iadd, 1) := by decide +kernel
theorem dL_law_807 : decode cL_law 807 = .ok (.iaload, 1) := by decide +kernel
theorem dL_law_808 : decode cL_law 808 = .ok (.invokevirtual 107, 3) := by decide +kernel
theorem dL_law_811 : decode cL_law 811 = .ok (.aload_n 2, 1) := by decide +kernel
theorem dL_law_812 : decode cL_law 812 = .ok (.aload_n 0, 1) := by decide +kernel
theorem dL_law_813 : decode cL_law 813 = .ok (.iload_n 3, 1) := by decide +kernel
theorem dL_law_814 : decode cL_law 814 = .ok (.iconst 1, 1) := by decide +kernel
theorem dL_law_815 : decode cL_law 815 = .ok (.iadd, 1) := by decide +kernel
theorem dL_law_816 : decode cL_law 816 = .ok (.iaload, 1) := by decide +kernel
theorem dL_law_817 : decode cL_law 817 = .ok (.aload_n 0, 1) := by decide +kernel
theorem dL_law_818 : decode cL_law 818 = .ok (.iload_n 3, 1) := by decide +kernel
theorem dL_law_819 : decode cL_law 819 = .ok (.iconst 2, 1) := by decide +kernel
theorem dL_law_820 : decode cL_law 820 = .ok (.iadd, 1) := by decide +kernel
theorem dL_law_821 : decode cL_law 821 = .ok (.iaload, 1) := by decide +kernel
theorem dL_law_822 : decode cL_law 822 = .ok (.aload_n 0, 1) := by decide +kernel
theorem dL_law_823 : decode cL_law 823 = .ok (.iload_n 3, 1) := by decide +kernel
theorem dL_law_824 : decode cL_law 824 = .ok (.iconst 3, 1) := by decide +kernel
theorem dL_law_825 : decode cL_law 825 = .ok (.iadd, 1) := by decide +kernel
theorem dL_law_826 : decode cL_law 826 = .ok (.iaload, 1) := by decide +kernel
theorem dL_law_827 : decode cL_law 827 = .ok (.aload_n 0, 1) := by decide +kernel
theorem dL_law_828 : decode cL_law 828 = .ok (.iload_n 3, 1) := by decide +kernel
theorem dL_law_829 : decode cL_law 829 = .ok (.iconst 4, 1) := by decide +kernel
theorem dL_law_830 : decode cL_law 830 = .ok (.iadd, 1) := by decide +kernel
theorem dL_law_831 : decode cL_law 831 = .ok (.iaload, 1) := by decide +kernel
theorem dL_law_832 : decode cL_law 832 = .ok (.aload_n 0, 1) := by decide +kernel
theorem dL_law_833 : decode cL_law 833 = .ok (.iload_n 3, 1) := by decide +kernel
theorem dL_law_834 : decode cL_law 834 = .ok (.iconst 5, 1) := by decide +kernel
theorem dL_law_835 : decode cL_law 835 = .ok (.iadd, 1) := by decide +kernel
theorem dL_law_836 : decode cL_law 836 = .ok (.iaload, 1) := by decide +kernel
theorem dL_law_837 : decode cL_law 837 = .ok (.invokevirtual 111, 3) := by decide +kernel
theorem dL_law_840 : decode cL_law 840 = .ok (.lcmp, 1) := by decide +kernel
theorem dL_law_841 : decode cL_law 841 = .ok (.ifCond .eq 259, 3) := by decide +kernel
theorem dL_law_844 : decode cL_law 844 = .ok (.iconst 0, 1) := by decide +kernel
theorem dL_law_845 : decode cL_law 845 = .ok (.ireturn, 1) := by decide +kernel
theorem dL_law_846 : decode cL_law 846 = .ok (.aload_n 1, 1) := by decide +kernel
theorem dL_law_847 : decode cL_law 847 = .ok (.aload_n 0, 1) := by decide +kernel
theorem dL_law_848 : decode cL_law 848 = .ok (.iload_n 3, 1) := by decide +kernel
theorem dL_law_849 : decode cL_law 849 = .ok (.iconst 1, 1) := by decide +kernel
theorem dL_law_850 : decode cL_law 850 = .ok (.iadd, 1) := by decide +kernel
theorem dL_law_851 : decode cL_law 851 = .ok (.iaload, 1) := by decide +kernel
theorem dL_law_852 : decode cL_law 852 = .ok (.aload_n 0, 1) := by decide +kernel
theorem dL_law_853 : decode cL_law 853 = .ok (.iload_n 3, 1) := by decide +kernel
theorem dL_law_854 : decode cL_law 854 = .ok (.iconst 2, 1) := by decide +kernel
theorem dL_law_855 : decode cL_law 855 = .ok (.iadd, 1) := by decide +kernel
theorem dL_law_856 : decode cL_law 856 = .ok (.iaload, 1) := by decide +kernel
theorem dL_law_857 : decode cL_law 857 = .ok (.aload_n 0, 1) := by decide +kernel
theorem dL_law_858 : decode cL_law 858 = .ok (.iload_n 3, 1) := by decide +kernel
theorem dL_law_859 : decode cL_law 859 = .ok (.iconst 3, 1) := by decide +kernel
theorem dL_law_860 : decode cL_law 860 = .ok (.iadd, 1) := by decide +kernel
theorem dL_law_861 : decode cL_law 861 = .ok (.iaload, 1) := by decide +kernel
theorem dL_law_862 : decode cL_law 862 = .ok (.aload_n 0, 1) := by decide +kernel
theorem dL_law_863 : decode cL_law 863 = .ok (.iload_n 3, 1) := by decide +kernel
theorem dL_law_864 : decode cL_law 864 = .ok (.iconst 4, 1) := by decide +kernel
theorem dL_law_865 : decode cL_law 865 = .ok (.iadd, 1) := by decide +kernel
theorem dL_law_866 : decode cL_law 866 = .ok (.iaload, 1) := by decide +kernel
theorem dL_law_867 : decode cL_law 867 = .ok (.invokevirtual 112, 3) := by decide +kernel
theorem dL_law_870 : decode cL_law 870 = .ok (.aload_n 2, 1) := by decide +kernel
theorem dL_law_871 : decode cL_law 871 = .ok (.aload_n 0, 1) := by decide +kernel
theorem dL_law_872 : decode cL_law 872 = .ok (.iload_n 3, 1) := by decide +kernel
theorem dL_law_873 : decode cL_law 873 = .ok (.iconst 1, 1) := by decide +kernel
theorem dL_law_874 : decode cL_law 874 = .ok (.iadd, 1) := by decide +kernel
theorem dL_law_875 : decode cL_law 875 = .ok (.iaload, 1) := by decide +kernel
theorem dL_law_876 : decode cL_law 876 = .ok (.aload_n 0, 1) := by decide +kernel
theorem dL_law_877 : decode cL_law 877 = .ok (.iload_n 3, 1) := by decide +kernel
theorem dL_law_878 : decode cL_law 878 = .ok (.iconst 2, 1) := by decide +kernel
theorem dL_law_879 : decode cL_law 879 = .ok (.iadd, 1) := by decide +kernel
theorem dL_law_880 : decode cL_law 880 = .ok (.iaload, 1) := by decide +kernel
theorem dL_law_881 : decode cL_law 881 = .ok (.aload_n 0, 1) := by decide +kernel
theorem dL_law_882 : decode cL_law 882 = .ok (.iload_n 3, 1) := by decide +kernel
theorem dL_law_883 : decode cL_law 883 = .ok (.iconst 3, 1) := by decide +kernel
theorem dL_law_884 : decode cL_law 884 = .ok (.iadd, 1) := by decide +kernel
theorem dL_law_885 : decode cL_law 885 = .ok (.iaload, 1) := by decide +kernel
theorem dL_law_886 : decode cL_law 886 = .ok (.aload_n 0, 1) := by decide +kernel
theorem dL_law_887 : decode cL_law 887 = .ok (.iload_n 3, 1) := by decide +kernel
theorem dL_law_888 : decode cL_law 888 = .ok (.iconst 4, 1) := by decide +kernel
theorem dL_law_889 : decode cL_law 889 = .ok (.iadd, 1) := by decide +kernel
theorem dL_law_890 : decode cL_law 890 = .ok (.iaload, 1) := by decide +kernel
theorem dL_law_891 : decode cL_law 891 = .ok (.invokevirtual 116, 3) := by decide +kernel
theorem dL_law_894 : decode cL_law 894 = .ok (.lcmp, 1) := by decide +kernel
theorem dL_law_895 : decode cL_law 895 = .ok (.ifCond .eq 205, 3) := by decide +kernel
theorem dL_law_898 : decode cL_law 898 = .ok (.iconst 0, 1) := by decide +kernel
theorem dL_law_899 : decode cL_law 899 = .ok (.ireturn, 1) := by decide +kernel
theorem dL_law_900 : decode cL_law 900 = .ok (.aload_n 1, 1) := by decide +kernel
theorem dL_law_901 : decode cL_law 901 = .ok (.aload_n 0, 1) := by decide +kernel
theorem dL_law_902 : decode cL_law 902 = .ok (.iload_n 3, 1) := by decide +kernel
theorem dL_law_903 : decode cL_law 903 = .ok (.iconst 1, 1) := by decide +kernel
theorem dL_law_904 : decode cL_law 904 = .ok (.iadd, 1) := by decide +kernel
theorem dL_law_905 : decode cL_law 905 = .ok (.iaload, 1) := by decide +kernel
theorem dL_law_906 : decode cL_law 906 = .ok (.invokevirtual 117, 3) := by decide +kernel
theorem dL_law_909 : decode cL_law 909 = .ok (.aload_n 2, 1) := by decide +kernel
theorem dL_law_910 : decode cL_law 910 = .ok (.aload_n 0, 1) := by decide +kernel
theorem dL_law_911 : decode cL_law 911 = .ok (.iload_n 3, 1) := by decide +kernel
theorem dL_law_912 : decode cL_law 912 = .ok (.iconst 1, 1) := by decide +kernel
theorem dL_law_913 : decode cL_law 913 = .ok (.iadd, 1) := by decide +kernel
theorem dL_law_914 : decode cL_law 914 = .ok (.iaload, 1) := by decide +kernel
theorem dL_law_915 : decode cL_law 915 = .ok (.invokevirtual 120, 3) := by decide +kernel
theorem dL_law_918 : decode cL_law 918 = .ok (.if_icmp .eq 182, 3) := by decide +kernel
theorem dL_law_921 : decode cL_law 921 = .ok (.iconst 0, 1) := by decide +kernel
theorem dL_law_922 : decode cL_law 922 = .ok (.ireturn, 1) := by decide +kernel
theorem dL_law_923 : decode cL_law 923 = .ok (.aload_n 1, 1) := by decide +kernel
theorem dL_law_924 : decode cL_law 924 = .ok (.invokevirtual 121, 3) := by decide +kernel
theorem dL_law_927 : decode cL_law 927 = .ok (.aload_n 2, 1) := by decide +kernel
theorem dL_law_928 : decode cL_law 928 = .ok (.invokevirtual 124, 3) := by decide +kernel
theorem dL_law_931 : decode cL_law 931 = .ok (.if_icmp .eq 169, 3) := by decide +kernel
theorem dL_law_934 : decode cL_law 934 = .ok (.iconst 0, 1) := by decide +kernel
theorem dL_law_935 : decode cL_law 935 = .ok (.ireturn, 1) := by decide +kernel
theorem dL_law_936 : decode cL_law 936 = .ok (.aload_n 1, 1) := by decide +kernel
theorem dL_law_937 : decode cL_law 937 = .ok (.aload_n 0, 1) := by decide +kernel
theorem dL_law_938 : decode cL_law 938 = .ok (.iload_n 3, 1) := by decide +kernel
theorem dL_law_939 : decode cL_law 939 = .ok (.iconst 1, 1) := by decide +kernel
theorem dL_law_940 : decode cL_law 940 = .ok (.iadd, 1) := by decide +kernel
theorem dL_law_941 : decode cL_law 941 = .ok (.iaload, 1) := by decide +kernel
theorem dL_law_942 : decode cL_law 942 = .ok (.invokevirtual 125, 3) := by decide +kernel
theorem dL_law_945 : decode cL_law 945 = .ok (.aload_n 2, 1) := by decide +kernel
theorem dL_law_946 : decode cL_law 946 = .ok (.aload_n 0, 1) := by decide +kernel
theorem dL_law_947 : decode cL_law 947 = .ok (.iload_n 3, 1) := by decide +kernel
theorem dL_law_948 : decode cL_law 948 = .ok (.iconst 1, 1) := by decide +kernel
theorem dL_law_949 : decode cL_law 949 = .ok (.iadd, 1) := by decide +kernel
theorem dL_law_950 : decode cL_law 950 = .ok (.iaload, 1) := by decide +kernel
theorem dL_law_951 : decode cL_law 951 = .ok (.invokevirtual 128, 3) := by decide +kernel
theorem dL_law_954 : decode cL_law 954 = .ok (.if_icmp .eq 146, 3) := by decide +kernel
theorem dL_law_957 : decode cL_law 957 = .ok (.iconst 0, 1) := by decide +kernel
theorem dL_law_958 : decode cL_law 958 = .ok (.ireturn, 1) := by decide +kernel
theorem dL_law_959 : decode cL_law 959 = .ok (.aload_n 1, 1) := by decide +kernel
theorem dL_law_960 : decode cL_law 960 = .ok (.invokevirtual 129, 3) := by decide +kernel
theorem dL_law_963 : decode cL_law 963 = .ok (.aload_n 2, 1) := by decide +kernel
theorem dL_law_964 : decode cL_law 964 = .ok (.invokevirtual 132, 3) := by decide +kernel
theorem dL_law_967 : decode cL_law 967 = .ok (.if_icmp .eq 133, 3) := by decide +kernel
theorem dL_law_970 : decode cL_law 970 = .ok (.iconst 0, 1) := by decide +kernel
theorem dL_law_971 : decode cL_law 971 = .ok (.ireturn, 1) := by decide +kernel
theorem dL_law_972 : decode cL_law 972 = .ok (.aload_n 1, 1) := by decide +kernel
theorem dL_law_973 : decode cL_law 973 = .ok (.aload_n 0, 1) := by decide +kernel
theorem dL_law_974 : decode cL_law 974 = .ok (.iload_n 3, 1) := by decide +kernel
theorem dL_law_975 : decode cL_law 975 = .ok (.iconst 1, 1) := by decide +kernel
theorem dL_law_976 : decode cL_law 976 = .ok (.iadd, 1) := by decide +kernel
theorem dL_law_977 : decode cL_law 977 = .ok (.iaload, 1) := by decide +kernel
theorem dL_law_978 : decode cL_law 978 = .ok (.invokevirtual 133, 3) := by decide +kernel
theorem dL_law_981 : decode cL_law 981 = .ok (.aload_n 2, 1) := by decide +kernel
theorem dL_law_982 : decode cL_law 982 = .ok (.aload_n 0, 1) := by decide +kernel
theorem dL_law_983 : decode cL_law 983 = .ok (.iload_n 3, 1) := by decide +kernel
theorem dL_law_984 : decode cL_law 984 = .ok (.iconst 1, 1) := by decide +kernel
theorem dL_law_985 : decode cL_law 985 = .ok (.iadd, 1) := by decide +kernel
theorem dL_law_986 : decode cL_law 986 = .ok (.iaload, 1) := by decide +kernel
theorem dL_law_987 : decode cL_law 987 = .ok (.invokevirtual 136, 3) := by decide +kernel
theorem dL_law_990 : decode cL_law 990 = .ok (.if_icmp .eq 110, 3) := by decide +kernel
theorem dL_law_993 : decode cL_law 993 = .ok (.iconst 0, 1) := by decide +kernel
theorem dL_law_994 : decode cL_law 994 = .ok (.ireturn, 1) := by decide +kernel
theorem dL_law_995 : decode cL_law 995 = .ok (.aload_n 1, 1) := by decide +kernel
theorem dL_law_996 : decode cL_law 996 = .ok (.invokevirtual 137, 3) := by decide +kernel
theorem dL_law_999 : decode cL_law 999 = .ok (.aload_n 2, 1) := by decide +kernel
theorem dL_law_1000 : decode cL_law 1000 = .ok (.invokevirtual 140, 3) := by decide +kernel
theorem dL_law_1003 : decode cL_law 1003 = .ok (.if_icmp .eq 97, 3) := by decide +kernel
theorem dL_law_1006 : decode cL_law 1006 = .ok (.iconst 0, 1) := by decide +kernel
theorem dL_law_1007 : decode cL_law 1007 = .ok (.ireturn, 1) := by decide +kernel
theorem dL_law_1008 : decode cL_law 1008 = .ok (.aload_n 1, 1) := by decide +kernel
theorem dL_law_1009 : decode cL_law 1009 = .ok (.aload_n 0, 1) := by decide +kernel
theorem dL_law_1010 : decode cL_law 1010 = .ok (.iload_n 3, 1) := by decide +kernel
theorem dL_law_1011 : decode cL_law 1011 = .ok (.iconst 1, 1) := by decide +kernel
theorem dL_law_1012 : decode cL_law 1012 = .ok (.iadd, 1) := by decide +kernel
theorem dL_law_1013 : decode cL_law 1013 = .ok (.iaload, 1) := by decide +kernel
theorem dL_law_1014 : decode cL_law 1014 = .ok (.invokevirtual 141, 3) := by decide +kernel
theorem dL_law_1017 : decode cL_law 1017 = .ok (.aload_n 2, 1) := by decide +kernel
theorem dL_law_1018 : decode cL_law 1018 = .ok (.aload_n 0, 1) := by decide +kernel
theorem dL_law_1019 : decode cL_law 1019 = .ok (.iload_n 3, 1) := by decide +kernel
theorem dL_law_1020 : decode cL_law 1020 = .ok (.iconst 1, 1) := by decide +kernel
theorem dL_law_1021 : decode cL_law 1021 = .ok (.iadd, 1) := by decide +kernel
theorem dL_law_1022 : decode cL_law 1022 = .ok (.iaload, 1) := by decide +kernel
theorem dL_law_1023 : decode cL_law 1023 = .ok (.invokevirtual 144, 3) := by decide +kernel
theorem dL_law_1026 : decode cL_law 1026 = .ok (.if_icmp .eq 74, 3) := by decide +kernel
theorem dL_law_1029 : decode cL_law 1029 = .ok (.iconst 0, 1) := by decide +kernel
theorem dL_law_1030 : decode cL_law 1030 = .ok (.ireturn, 1) := by decide +kernel
theorem dL_law_1031 : decode cL_law 1031 = .ok (.aload_n 1, 1) := by decide +kernel
theorem dL_law_1032 : decode cL_law 1032 = .ok (.aload_n 0, 1) := by decide +kernel
theorem dL_law_1033 : decode cL_law 1033 = .ok (.iload_n 3, 1) := by decide +kernel
theorem dL_law_1034 : decode cL_law 1034 = .ok (.iconst 1, 1) := by decide +kernel
theorem dL_law_1035 : decode cL_law 1035 = .ok (.iadd, 1) := by decide +kernel
theorem dL_law_1036 : decode cL_law 1036 = .ok (.iaload, 1) := by decide +kernel
theorem dL_law_1037 : decode cL_law 1037 = .ok (.invokevirtual 145, 3) := by decide +kernel
theorem dL_law_1040 : decode cL_law 1040 = .ok (.aload_n 2, 1) := by decide +kernel
theorem dL_law_1041 : decode cL_law 1041 = .ok (.aload_n 0, 1) := by decide +kernel
theorem dL_law_1042 : decode cL_law 1042 = .ok (.iload_n 3, 1) := by decide +kernel
theorem dL_law_1043 : decode cL_law 1043 = .ok (.iconst 1, 1) := by decide +kernel
theorem dL_law_1044 : decode cL_law 1044 = .ok (.iadd, 1) := by decide +kernel
theorem dL_law_1045 : decode cL_law 1045 = .ok (.iaload, 1) := by decide +kernel
theorem dL_law_1046 : decode cL_law 1046 = .ok (.invokevirtual 148, 3) := by decide +kernel
theorem dL_law_1049 : decode cL_law 1049 = .ok (.if_icmp .eq 51, 3) := by decide +kernel
theorem dL_law_1052 : decode cL_law 1052 = .ok (.iconst 0, 1) := by decide +kernel
theorem dL_law_1053 : decode cL_law 1053 = .ok (.ireturn, 1) := by decide +kernel
theorem dL_law_1054 : decode cL_law 1054 = .ok (.aload_n 1, 1) := by decide +kernel
theorem dL_law_1055 : decode cL_law 1055 = .ok (.aload_n 0, 1) := by decide +kernel
theorem dL_law_1056 : decode cL_law 1056 = .ok (.iload_n 3, 1) := by decide +kernel
theorem dL_law_1057 : decode cL_law 1057 = .ok (.iconst 1, 1) := by decide +kernel
theorem dL_law_1058 : decode cL_law 1058 = .ok (.iadd, 1) := by decide +kernel
theorem dL_law_1059 : decode cL_law 1059 = .ok (.iaload, 1) := by decide +kernel
theorem dL_law_1060 : decode cL_law 1060 = .ok (.invokevirtual 149, 3) := by decide +kernel
theorem dL_law_1063 : decode cL_law 1063 = .ok (.aload_n 2, 1) := by decide +kernel
theorem dL_law_1064 : decode cL_law 1064 = .ok (.aload_n 0, 1) := by decide +kernel
theorem dL_law_1065 : decode cL_law 1065 = .ok (.iload_n 3, 1) := by decide +kernel
theorem dL_law_1066 : decode cL_law 1066 = .ok (.iconst 1, 1) := by decide +kernel
theorem dL_law_1067 : decode cL_law 1067 = .ok (.iadd, 1) := by decide +kernel
theorem dL_law_1068 : decode cL_law 1068 = .ok (.iaload, 1) := by decide +kernel
theorem dL_law_1069 : decode cL_law 1069 = .ok (.invokevirtual 152, 3) := by decide +kernel
theorem dL_law_1072 : decode cL_law 1072 = .ok (.if_icmp .eq 28, 3) := by decide +kernel
theorem dL_law_1075 : decode cL_law 1075 = .ok (.iconst 0, 1) := by decide +kernel
theorem dL_law_1076 : decode cL_law 1076 = .ok (.ireturn, 1) := by decide +kernel
theorem dL_law_1077 : decode cL_law 1077 = .ok (.aload_n 1, 1) := by decide +kernel
theorem dL_law_1078 : decode cL_law 1078 = .ok (.aload_n 0, 1) := by decide +kernel
theorem dL_law_1079 : decode cL_law 1079 = .ok (.iload_n 3, 1) := by decide +kernel
theorem dL_law_1080 : decode cL_law 1080 = .ok (.iconst 1, 1) := by decide +kernel
theorem dL_law_1081 : decode cL_law 1081 = .ok (.iadd, 1) := by decide +kernel
theorem dL_law_1082 : decode cL_law 1082 = .ok (.iaload, 1) := by decide +kernel
theorem dL_law_1083 : decode cL_law 1083 = .ok (.invokevirtual 153, 3) := by decide +kernel
theorem dL_law_1086 : decode cL_law 1086 = .ok (.aload_n 2, 1) := by decide +kernel
theorem dL_law_1087 : decode cL_law 1087 = .ok (.aload_n 0, 1) := by decide +kernel
theorem dL_law_1088 : decode cL_law 1088 = .ok (.iload_n 3, 1) := by decide +kernel
theorem dL_law_1089 : decode cL_law 1089 = .ok (.iconst 1, 1) := by decide +kernel
theorem dL_law_1090 : decode cL_law 1090 = .ok (.iadd, 1) := by decide +kernel
theorem dL_law_1091 : decode cL_law 1091 = .ok (.iaload, 1) := by decide +kernel
theorem dL_law_1092 : decode cL_law 1092 = .ok (.invokevirtual 156, 3) := by decide +kernel
theorem dL_law_1095 : decode cL_law 1095 = .ok (.if_icmp .eq 5, 3) := by decide +kernel
theorem dL_law_1098 : decode cL_law 1098 = .ok (.iconst 0, 1) := by decide +kernel
theorem dL_law_1099 : decode cL_law 1099 = .ok (.ireturn, 1) := by decide +kernel
theorem dL_law_1100 : decode cL_law 1100 = .ok (.iinc 3 6, 3) := by decide +kernel
theorem dL_law_1103 : decode cL_law 1103 = .ok (.goto (-1085), 3) := by decide +kernel
theorem dL_law_1106 : decode cL_law 1106 = .ok (.iconst 1, 1) := by decide +kernel
theorem dL_law_1107 : decode cL_law 1107 = .ok (.ireturn, 1) := by decide +kernel
