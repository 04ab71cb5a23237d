theorem dX11_room_97 : decode cX11_room 97 = .ok (.iconst 1, 1) := by decide +kernel
theorem dX11_room_98 : decode cX11_room 98 = .ok (.iadd, 1) := by decide +kernel
theorem dX11_room_99 : decode cX11_room 99 = .ok (.putfield 63, 3) := by decide +kernel
theorem dX11_room_102 : decode cX11_room 102 = .ok (.iconst 0, 1) := by decide +kernel
theorem dX11_room_103 : decode cX11_room 103 = .ok (.istore_n 1, 1) := by decide +kernel
theorem dX11_room_104 : decode cX11_room 104 = .ok (.iconst 0, 1) := by decide +kernel
theorem dX11_room_105 : decode cX11_room 105 = .ok (.istore_n 2, 1) := by decide +kernel
theorem dX11_room_106 : decode cX11_room 106 = .ok (.goto 31, 3) := by decide +kernel
theorem dX11_room_109 : decode cX11_room 109 = .ok (.iload 7, 2) := by decide +kernel
theorem dX11_room_111 : decode cX11_room 111 = .ok (.bipush 45, 2) := by decide +kernel
theorem dX11_room_113 : decode cX11_room 113 = .ok (.if_icmp .ne 9, 3) := by decide +kernel
theorem dX11_room_116 : decode cX11_room 116 = .ok (.iinc 1 1, 3) := by decide +kernel
theorem dX11_room_119 : decode cX11_room 119 = .ok (.goto 18, 3) := by decide +kernel
theorem dX11_room_122 : decode cX11_room 122 = .ok (.iload 7, 2) := by decide +kernel
theorem dX11_room_124 : decode cX11_room 124 = .ok (.bipush 124, 2) := by decide +kernel
theorem dX11_room_126 : decode cX11_room 126 = .ok (.if_icmp .ne 8, 3) := by decide +kernel
theorem dX11_room_129 : decode cX11_room 129 = .ok (.iconst 1, 1) := by decide +kernel
theorem dX11_room_130 : decode cX11_room 130 = .ok (.istore_n 2, 1) := by decide +kernel
theorem dX11_room_131 : decode cX11_room 131 = .ok (.goto 6, 3) := by decide +kernel
theorem dX11_room_134 : decode cX11_room 134 = .ok (.iconst 1, 1) := by decide +kernel
theorem dX11_room_135 : decode cX11_room 135 = .ok (.istore 5, 2) := by decide +kernel
theorem dX11_room_137 : decode cX11_room 137 = .ok (.iinc 6 1, 3) := by decide +kernel
theorem dX11_room_140 : decode cX11_room 140 = .ok (.goto (-110), 3) := by decide +kernel
theorem dX11_room_143 : decode cX11_room 143 = .ok (.aload_n 0, 1) := by decide +kernel
theorem dX11_room_144 : decode cX11_room 144 = .ok (.getfield 13, 3) := by decide +kernel
theorem dX11_room_147 : decode cX11_room 147 = .ok (.aload_n 0, 1) := by decide +kernel
theorem dX11_room_148 : decode cX11_room 148 = .ok (.getfield 63, 3) := by decide +kernel
theorem dX11_room_151 : decode cX11_room 151 = .ok (.iconst 1, 1) := by decide +kernel
theorem dX11_room_152 : decode cX11_room 152 = .ok (.isub, 1) := by decide +kernel
theorem dX11_room_153 : decode cX11_room 153 = .ok (.iload 5, 2) := by decide +kernel
theorem dX11_room_155 : decode cX11_room 155 = .ok (.ifCond .eq 28, 3) := by decide +kernel
theorem dX11_room_158 : decode cX11_room 158 = .ok (.aload_n 0, 1) := by decide +kernel
theorem dX11_room_159 : decode cX11_room 159 = .ok (.getfield 63, 3) := by decide +kernel
theorem dX11_room_162 : decode cX11_room 162 = .ok (.iconst 1, 1) := by decide +kernel
theorem dX11_room_163 : decode cX11_room 163 = .ok (.if_icmp .le 20, 3) := by decide +kernel
theorem dX11_room_166 : decode cX11_room 166 = .ok (.iload_n 2, 1) := by decide +kernel
theorem dX11_room_167 : decode cX11_room 167 = .ok (.ifCond .ne 16, 3) := by decide +kernel
theorem dX11_room_170 : decode cX11_room 170 = .ok (.iload 4, 2) := by decide +kernel
theorem dX11_room_172 : decode cX11_room 172 = .ok (.ifCond .ne 11, 3) := by decide +kernel
theorem dX11_room_175 : decode cX11_room 175 = .ok (.iconst 1, 1) := by decide +kernel
theorem dX11_room_176 : decode cX11_room 176 = .ok (.iload_n 1, 1) := by decide +kernel
theorem dX11_room_177 : decode cX11_room 177 = .ok (.iadd, 1) := by decide +kernel
theorem dX11_room_178 : decode cX11_room 178 = .ok (.iload_n 3, 1) := by decide +kernel
theorem dX11_room_179 : decode cX11_room 179 = .ok (.iadd, 1) := by decide +kernel
theorem dX11_room_180 : decode cX11_room 180 = .ok (.goto 4, 3) := by decide +kernel
theorem dX11_room_183 : decode cX11_room 183 = .ok (.iconst 0, 1) := by decide +kernel
theorem dX11_room_184 : decode cX11_room 184 = .ok (.iastore, 1) := by decide +kernel
theorem dX11_room_185 : decode cX11_room 185 = .ok (.iconst 0, 1) := by decide +kernel
theorem dX11_room_186 : decode cX11_room 186 = .ok (.istore 6, 2) := by decide +kernel
theorem dX11_room_188 : decode cX11_room 188 = .ok (.iload 6, 2) := by decide +kernel
theorem dX11_room_190 : decode cX11_room 190 = .ok (.bipush 12, 2) := by decide +kernel
theorem dX11_room_192 : decode cX11_room 192 = .ok (.if_icmp .ge 17, 3) := by decide +kernel
theorem dX11_room_195 : decode cX11_room 195 = .ok (.aload_n 0, 1) := by decide +kernel
theorem dX11_room_196 : decode cX11_room 196 = .ok (.getfield 16, 3) := by decide +kernel
theorem dX11_room_199 : decode cX11_room 199 = .ok (.iload 6, 2) := by decide +kernel
theorem dX11_room_201 : decode cX11_room 201 = .ok (.iconst 0, 1) := by decide +kernel
theorem dX11_room_202 : decode cX11_room 202 = .ok (.iastore, 1) := by decide +kernel
theorem dX11_room_203 : decode cX11_room 203 = .ok (.iinc 6 1, 3) := by decide +kernel
theorem dX11_room_206 : decode cX11_room 206 = .ok (.goto (-18), 3) := by decide +kernel
theorem dX11_room_209 : decode cX11_room 209 = .ok (.aload_n 0, 1) := by decide +kernel
theorem dX11_room_210 : decode cX11_room 210 = .ok (.iconst 0, 1) := by decide +kernel
theorem dX11_room_211 : decode cX11_room 211 = .ok (.putfield 89, 3) := by decide +kernel
theorem dX11_room_214 : decode cX11_room 214 = .ok (.aload_n 0, 1) := by decide +kernel
theorem dX11_room_215 : decode cX11_room 215 = .ok (.iconst 0, 1) := by decide +kernel
theorem dX11_room_216 : decode cX11_room 216 = .ok (.putfield 82, 3) := by decide +kernel
theorem dX11_room_219 : decode cX11_room 219 = .ok (.aload_n 0, 1) := by decide +kernel
theorem dX11_room_220 : decode cX11_room 220 = .ok (.iconst 0, 1) := by decide +kernel
theorem dX11_room_221 : decode cX11_room 221 = .ok (.invokevirtual 70, 3) := by decide +kernel
theorem dX11_room_224 : decode cX11_room 224 = .ok (.aload_n 0, 1) := by decide +kernel
theorem dX11_room_225 : decode cX11_room 225 = .ok (.getfield 63, 3) := by decide +kernel
theorem dX11_room_228 : decode cX11_room 228 = .ok (.ireturn, 1) := by decide +kernel
theorem dX11_at_0 : decode cX11_at 0 = .ok (.bipush 12, 2) := by decide +kernel
theorem dX11_at_2 : decode cX11_at 2 = .ok (.iload_n 0, 1) := by decide +kernel
theorem dX11_at_3 : decode cX11_at 3 = .ok (.imul, 1) := by decide +kernel
theorem dX11_at_4 : decode cX11_at 4 = .ok (.iload_n 1, 1) := by decide +kernel
theorem dX11_at_5 : decode cX11_at 5 = .ok (.iadd, 1) := by decide +kernel
theorem dX11_at_6 : decode cX11_at 6 = .ok (.ireturn, 1) := by decide +kernel
theorem dX11_link_0 : decode cX11_link 0 = .ok (.iload_n 3, 1) := by decide +kernel
theorem dX11_link_1 : decode cX11_link 1 = .ok (.aload_n 0, 1) := by decide +kernel
theorem dX11_link_2 : decode cX11_link 2 = .ok (.getfield 19, 3) := by decide +kernel
theorem dX11_link_5 : decode cX11_link 5 = .ok (.iload_n 1, 1) := by decide +kernel
theorem dX11_link_6 : decode cX11_link 6 = .ok (.iload_n 2, 1) := by decide +kernel
theorem dX11_link_7 : decode cX11_link 7 = .ok (.invokestatic 92, 3) := by decide +kernel
theorem dX11_link_10 : decode cX11_link 10 = .ok (.iaload, 1) := by decide +kernel
theorem dX11_link_11 : decode cX11_link 11 = .ok (.if_icmp .ge 25, 3) := by decide +kernel
theorem dX11_link_14 : decode cX11_link 14 = .ok (.aload_n 0, 1) := by decide +kernel
theorem dX11_link_15 : decode cX11_link 15 = .ok (.getfield 19, 3) := by decide +kernel
theorem dX11_link_18 : decode cX11_link 18 = .ok (.iload_n 1, 1) := by decide +kernel
theorem dX11_link_19 : decode cX11_link 19 = .ok (.iload_n 2, 1) := by decide +kernel
theorem dX11_link_20 : decode cX11_link 20 = .ok (.invokestatic 92, 3) := by decide +kernel
theorem dX11_link_23 : decode cX11_link 23 = .ok (.iload_n 3, 1) := by decide +kernel
theorem dX11_link_24 : decode cX11_link 24 = .ok (.iastore, 1) := by decide +kernel
theorem dX11_link_25 : decode cX11_link 25 = .ok (.aload_n 0, 1) := by decide +kernel
theorem dX11_link_26 : decode cX11_link 26 = .ok (.getfield 19, 3) := by decide +kernel
theorem dX11_link_29 : decode cX11_link 29 = .ok (.iload_n 2, 1) := by decide +kernel
theorem dX11_link_30 : decode cX11_link 30 = .ok (.iload_n 1, 1) := by decide +kernel
theorem dX11_link_31 : decode cX11_link 31 = .ok (.invokestatic 92, 3) := by decide +kernel
theorem dX11_link_34 : decode cX11_link 34 = .ok (.iload_n 3, 1) := by decide +kernel
theorem dX11_link_35 : decode cX11_link 35 = .ok (.iastore, 1) := by decide +kernel
theorem dX11_link_36 : decode cX11_link 36 = .ok (.return_, 1) := by decide +kernel
theorem dX11_findFar_0 : decode cX11_findFar 0 = .ok (.iconst 0, 1) := by decide +kernel
theorem dX11_findFar_1 : decode cX11_findFar 1 = .ok (.istore_n 2, 1) := by decide +kernel
theorem dX11_findFar_2 : decode cX11_findFar 2 = .ok (.iload_n 2, 1) := by decide +kernel
theorem dX11_findFar_3 : decode cX11_findFar 3 = .ok (.bipush 12, 2) := by decide +kernel
theorem dX11_findFar_5 : decode cX11_findFar 5 = .ok (.if_icmp .ge 44, 3) := by decide +kernel
theorem dX11_findFar_8 : decode cX11_findFar 8 = .ok (.iconst 0, 1) := by decide +kernel
theorem dX11_findFar_9 : decode cX11_findFar 9 = .ok (.istore_n 3, 1) := by decide +kernel
theorem dX11_findFar_10 : decode cX11_findFar 10 = .ok (.iload_n 3, 1) := by decide +kernel
theorem dX11_findFar_11 : decode cX11_findFar 11 = .ok (.bipush 12, 2) := by decide +kernel
theorem dX11_findFar_13 : decode cX11_findFar 13 = .ok (.if_icmp .ge 30, 3) := by decide +kernel
theorem dX11_findFar_16 : decode cX11_findFar 16 = .ok (.aload_n 0, 1) := by decide +kernel
theorem dX11_findFar_17 : decode cX11_findFar 17 = .ok (.getfield 19, 3) := by decide +kernel
theorem dX11_findFar_20 : decode cX11_findFar 20 = .ok (.iload_n 2, 1) := by decide +kernel
theorem dX11_findFar_21 : decode cX11_findFar 21 = .ok (.iload_n 3, 1) := by decide +kernel
theorem dX11_findFar_22 : decode cX11_findFar 22 = .ok (.invokestatic 92, 3) := by decide +kernel
theorem dX11_findFar_25 : decode cX11_findFar 25 = .ok (.iload_n 2, 1) := by decide +kernel
theorem dX11_findFar_26 : decode cX11_findFar 26 = .ok (.iload_n 3, 1) := by decide +kernel
theorem dX11_findFar_27 : decode cX11_findFar 27 = .ok (.if_icmp .ne 7, 3) := by decide +kernel
theorem dX11_findFar_30 : decode cX11_findFar 30 = .ok (.iconst 0, 1) := by decide +kernel
theorem dX11_findFar_31 : decode cX11_findFar 31 = .ok (.goto 5, 3) := by decide +kernel
theorem dX11_findFar_34 : decode cX11_findFar 34 = .ok (.bipush 99, 2) := by decide +kernel
theorem dX11_findFar_36 : decode cX11_findFar 36 = .ok (.iastore, 1) := by decide +kernel
theorem dX11_findFar_37 : decode cX11_findFar 37 = .ok (.iinc 3 1, 3) := by decide +kernel
theorem dX11_findFar_40 : decode cX11_findFar 40 = .ok (.goto (-30), 3) := by decide +kernel
theorem dX11_findFar_43 : decode cX11_findFar 43 = .ok (.iinc 2 1, 3) := by decide +kernel
theorem dX11_findFar_46 : decode cX11_findFar 46 = .ok (.goto (-44), 3) := by decide +kernel
theorem dX11_findFar_49 : decode cX11_findFar 49 = .ok (.iconst 0, 1) := by decide +kernel
theorem dX11_findFar_50 : decode cX11_findFar 50 = .ok (.istore_n 2, 1) := by decide +kernel
theorem dX11_findFar_51 : decode cX11_findFar 51 = .ok (.iload_n 2, 1) := by decide +kernel
theorem dX11_findFar_52 : decode cX11_findFar 52 = .ok (.aload_n 0, 1) := by decide +kernel
theorem dX11_findFar_53 : decode cX11_findFar 53 = .ok (.getfield 63, 3) := by decide +kernel
theorem dX11_findFar_56 : decode cX11_findFar 56 = .ok (.if_icmp .ge 68, 3) := by decide +kernel
theorem dX11_findFar_59 : decode cX11_findFar 59 = .ok (.iload_n 2, 1) := by decide +kernel
theorem dX11_findFar_60 : decode cX11_findFar 60 = .ok (.aload_n 0, 1) := by decide +kernel
theorem dX11_findFar_61 : decode cX11_findFar 61 = .ok (.getfield 63, 3) := by decide +kernel
theorem dX11_findFar_64 : decode cX11_findFar 64 = .ok (.iconst 1, 1) := by decide +kernel
theorem dX11_findFar_65 : decode cX11_findFar 65 = .ok (.isub, 1) := by decide +kernel
theorem dX11_findFar_66 : decode cX11_findFar 66 = .ok (.if_icmp .ne 7, 3) := by decide +kernel
theorem dX11_findFar_69 : decode cX11_findFar 69 = .ok (.iconst 1, 1) := by decide +kernel
theorem dX11_findFar_70 : decode cX11_findFar 70 = .ok (.goto 4, 3) := by decide +kernel
theorem dX11_findFar_73 : decode cX11_findFar 73 = .ok (.iconst 0, 1) := by decide +kernel
theorem dX11_findFar_74 : decode cX11_findFar 74 = .ok (.istore_n 3, 1) := by decide +kernel
theorem dX11_findFar_75 : decode cX11_findFar 75 = .ok (.aload_n 0, 1) := by decide +kernel
theorem dX11_findFar_76 : decode cX11_findFar 76 = .ok (.getfield 13, 3) := by decide +kernel
theorem dX11_findFar_79 : decode cX11_findFar 79 = .ok (.iload_n 2, 1) := by decide +kernel
theorem dX11_findFar_80 : decode cX11_findFar 80 = .ok (.iaload, 1) := by decide +kernel
theorem dX11_findFar_81 : decode cX11_findFar 81 = .ok (.ifCond .le 37, 3) := by decide +kernel
theorem dX11_findFar_84 : decode cX11_findFar 84 = .ok (.iload_n 3, 1) := by decide +kernel
theorem dX11_findFar_85 : decode cX11_findFar 85 = .ok (.ifCond .ne 11, 3) := by decide +kernel
theorem dX11_findFar_88 : decode cX11_findFar 88 = .ok (.iload_n 1, 1) := by decide +kernel
theorem dX11_findFar_89 : decode cX11_findFar 89 = .ok (.iload_n 2, 1) := by decide +kernel
theorem dX11_findFar_90 : decode cX11_findFar 90 = .ok (.ishr, 1) := by decide +kernel
theorem dX11_findFar_91 : decode cX11_findFar 91 = .ok (.iconst 1, 1) := by decide +kernel
theorem dX11_findFar_92 : decode cX11_findFar 92 = .ok (.iand, 1) := by decide +kernel
theorem dX11_findFar_93 : decode cX11_findFar 93 = .ok (.ifCond .ne 25, 3) := by decide +kernel
theorem dX11_findFar_96 : decode cX11_findFar 96 = .ok (.aload_n 0, 1) := by decide +kernel
theorem dX11_findFar_97 : decode cX11_findFar 97 = .ok (.iload_n 2, 1) := by decide +kernel
theorem dX11_findFar_98 : decode cX11_findFar 98 = .ok (.iload_n 3, 1) := by decide +kernel
theorem dX11_findFar_99 : decode cX11_findFar 99 = .ok (.ifCond .eq 7, 3) := by decide +kernel
theorem dX11_findFar_102 : decode cX11_findFar 102 = .ok (.iconst 0, 1) := by decide +kernel
theorem dX11_findFar_103 : decode cX11_findFar 103 = .ok (.goto 6, 3) := by decide +kernel
theorem dX11_findFar_106 : decode cX11_findFar 106 = .ok (.iload_n 2, 1) := by decide +kernel
theorem dX11_findFar_107 : decode cX11_findFar 107 = .ok (.iconst 1, 1) := by decide +kernel
theorem dX11_findFar_108 : decode cX11_findFar 108 = .ok (.iadd, 1) := by decide +kernel
theorem dX11_findFar_109 : decode cX11_findFar 109 = .ok (.aload_n 0, 1) := by decide +kernel
theorem dX11_findFar_110 : decode cX11_findFar 110 = .ok (.getfield 13, 3) := by decide +kernel
theorem dX11_findFar_113 : decode cX11_findFar 113 = .ok (.iload_n 2, 1) := by decide +kernel
theorem dX11_findFar_114 : decode cX11_findFar 114 = .ok (.iaload, 1) := by decide +kernel
theorem dX11_findFar_115 : decode cX11_findFar 115 = .ok (.invokevirtual 96, 3) := by decide +kernel
theorem dX11_findFar_118 : decode cX11_findFar 118 = .ok (.iinc 2 1, 3) := by decide +kernel
theorem dX11_findFar_121 : decode cX11_findFar 121 = .ok (.goto (-70), 3) := by decide +kernel
theorem dX11_findFar_124 : decode cX11_findFar 124 = .ok (.iconst 0, 1) := by decide +kernel
theorem dX11_findFar_125 : decode cX11_findFar 125 = .ok (.istore_n 2, 1) := by decide +kernel
theorem dX11_findFar_126 : decode cX11_findFar 126 = .ok (.iload_n 2, 1) := by decide +kernel
theorem dX11_findFar_127 : decode cX11_findFar 127 = .ok (.aload_n 0, 1) := by decide +kernel
theorem dX11_findFar_128 : decode cX11_findFar 128 = .ok (.getfield 63, 3) := by decide +kernel
theorem dX11_findFar_131 : decode cX11_findFar 131 = .ok (.if_icmp .ge 110, 3) := by decide +kernel
theorem dX11_findFar_134 : decode cX11_findFar 134 = .ok (.iconst 0, 1) := by decide +kernel
theorem dX11_findFar_135 : decode cX11_findFar 135 = .ok (.istore_n 3, 1) := by decide +kernel
theorem dX11_findFar_136 : decode cX11_findFar 136 = .ok (.iload_n 3, 1) := by decide +kernel
theorem dX11_findFar_137 : decode cX11_findFar 137 = .ok (.aload_n 0, 1) := by decide +kernel
theorem dX11_findFar_138 : decode cX11_findFar 138 = .ok (.getfield 63, 3) := by decide +kernel
theorem dX11_findFar_141 : decode cX11_findFar 141 = .ok (.if_icmp .ge 94, 3) := by decide +kernel
theorem dX11_findFar_144 : decode cX11_findFar 144 = .ok (.iconst 0, 1) := by decide +kernel
theorem dX11_findFar_145 : decode cX11_findFar 145 = .ok (.istore 4, 2) := by decide +kernel
theorem dX11_findFar_147 : decode cX11_findFar 147 = .ok (.iload 4, 2) := by decide +kernel
theorem dX11_findFar_149 : decode cX11_findFar 149 = .ok (.aload_n 0, 1) := by decide +kernel
theorem dX11_findFar_150 : decode cX11_findFar 150 = .ok (.getfield 63, 3) := by decide +kernel
theorem dX11_findFar_153 : decode cX11_findFar 153 = .ok (.if_icmp .ge 76, 3) := by decide +kernel
theorem dX11_findFar_156 : decode cX11_findFar 156 = .ok (.aload_n 0, 1) := by decide +kernel
theorem dX11_findFar_157 : decode cX11_findFar 157 = .ok (.getfield 19, 3) := by decide +kernel
theorem dX11_findFar_160 : decode cX11_findFar 160 = .ok (.iload_n 3, 1) := by decide +kernel
theorem dX11_findFar_161 : decode cX11_findFar 161 = .ok (.iload_n 2, 1) := by decide +kernel
theorem dX11_findFar_162 : decode cX11_findFar 162 = .ok (.invokestatic 92, 3) := by decide +kernel
theorem dX11_findFar_165 : decode cX11_findFar 165 = .ok (.iaload, 1) := by decide +kernel
theorem dX11_findFar_166 : decode cX11_findFar 166 = .ok (.aload_n 0, 1) := by decide +kernel
theorem dX11_findFar_167 : decode cX11_findFar 167 = .ok (.getfield 19, 3) := by decide +kernel
theorem dX11_findFar_170 : decode cX11_findFar 170 = .ok (.iload_n 2, 1) := by decide +kernel
theorem dX11_findFar_171 : decode cX11_findFar 171 = .ok (.iload 4, 2) := by decide +kernel
theorem dX11_findFar_173 : decode cX11_findFar 173 = .ok (.invokestatic 92, 3) := by decide +kernel
theorem dX11_findFar_176 : decode cX11_findFar 176 = .ok (.iaload, 1) := by decide +kernel
theorem dX11_findFar_177 : decode cX11_findFar 177 = .ok (.iadd, 1) := by decide +kernel
theorem dX11_findFar_178 : decode cX11_findFar 178 = .ok (.istore 5, 2) := by decide +kernel
theorem dX11_findFar_180 : decode cX11_findFar 180 = .ok (.aload_n 0, 1) := by decide +kernel
theorem dX11_findFar_181 : decode cX11_findFar 181 = .ok (.getfield 19, 3) := by decide +kernel
theorem dX11_findFar_184 : decode cX11_findFar 184 = .ok (.iload_n 3, 1) := by decide +kernel
theorem dX11_findFar_185 : decode cX11_findFar 185 = .ok (.iload 4, 2) := by decide +kernel
theorem dX11_findFar_187 : decode cX11_findFar 187 = .ok (.invokestatic 92, 3) := by decide +kernel
theorem dX11_findFar_190 : decode cX11_findFar 190 = .ok (.iload 5, 2) := by decide +kernel
theorem dX11_findFar_192 : decode cX11_findFar 192 = .ok (.aload_n 0, 1) := by decide +kernel
theorem dX11_findFar_193 : decode cX11_findFar 193 = .ok (.getfield 19, 3) := by decide +kernel
theorem dX11_findFar_196 : decode cX11_findFar 196 = .ok (.iload_n 3, 1) := by decide +kernel
theorem dX11_findFar_197 : decode cX11_findFar 197 = .ok (.iload 4, 2) := by decide +kernel
theorem dX11_findFar_199 : decode cX11_findFar 199 = .ok (.invokestatic 92, 3) := by decide +kernel
theorem dX11_findFar_202 : decode cX11_findFar 202 = .ok (.iaload, 1) := by decide +kernel
theorem dX11_findFar_203 : decode cX11_findFar 203 = .ok (.if_icmp .ge 8, 3) := by decide +kernel
theorem dX11_findFar_206 : decode cX11_findFar 206 = .ok (.iload 5, 2) := by decide +kernel
theorem dX11_findFar_208 : decode cX11_findFar 208 = .ok (.goto 14, 3) := by decide +kernel
theorem dX11_findFar_211 : decode cX11_findFar 211 = .ok (.aload_n 0, 1) := by decide +kernel
theorem dX11_findFar_212 : decode cX11_findFar 212 = .ok (.getfield 19, 3) := by decide +kernel
theorem dX11_findFar_215 : decode cX11_findFar 215 = .ok (.iload_n 3, 1) := by decide +kernel
theorem dX11_findFar_216 : decode cX11_findFar 216 = .ok (.iload 4, 2) := by decide +kernel
theorem dX11_findFar_218 : decode cX11_findFar 218 = .ok (.invokestatic 92, 3) := by decide +kernel
theorem dX11_findFar_221 : decode cX11_findFar 221 = .ok (.iaload, 1) := by decide +kernel
theorem dX11_findFar_222 : decode cX11_findFar 222 = .ok (.iastore, 1) := by decide +kernel
theorem dX11_findFar_223 : decode cX11_findFar 223 = .ok (.iinc 4 1, 3) := by decide +kernel
theorem dX11_findFar_226 : decode cX11_findFar 226 = .ok (.goto (-79), 3) := by decide +kernel
theorem dX11_findFar_229 : decode cX11_findFar 229 = .ok (.iinc 3 1, 3) := by decide +kernel
theorem dX11_findFar_232 : decode cX11_findFar 232 = .ok (.goto (-96), 3) := by decide +kernel
theorem dX11_findFar_235 : decode cX11_findFar 235 = .ok (.iinc 2 1, 3) := by decide +kernel
theorem dX11_findFar_238 : decode cX11_findFar 238 = .ok (.goto (-112), 3) := by decide +kernel
theorem dX11_findFar_241 : decode cX11_findFar 241 = .ok (.return_, 1) := by decide +kernel
theorem dX11_isSeat_0 : decode cX11_isSeat 0 = .ok (.iload_n 1, 1) := by decide +kernel
theorem dX11_isSeat_1 : decode cX11_isSeat 1 = .ok (.i2l, 1) := by decide +kernel
theorem dX11_isSeat_2 : decode cX11_isSeat 2 = .ok (.lconst 0, 1) := by decide +kernel
theorem dX11_isSeat_3 : decode cX11_isSeat 3 = .ok (.aload_n 0, 1) := by decide +kernel
theorem dX11_isSeat_4 : decode cX11_isSeat 4 = .ok (.getfield 63, 3) := by decide +kernel
theorem dX11_isSeat_7 : decode cX11_isSeat 7 = .ok (.iconst 1, 1) := by decide +kernel
theorem dX11_isSeat_8 : decode cX11_isSeat 8 = .ok (.isub, 1) := by decide +kernel
theorem dX11_isSeat_9 : decode cX11_isSeat 9 = .ok (.i2l, 1) := by decide +kernel
theorem dX11_isSeat_10 : decode cX11_isSeat 10 = .ok (.invokestatic 74, 3) := by decide +kernel
theorem dX11_isSeat_13 : decode cX11_isSeat 13 = .ok (.ireturn, 1) := by decide +kernel
theorem dX11_worth_0 : decode cX11_worth 0 = .ok (.aload_n 0, 1) := by decide +kernel
theorem dX11_worth_1 : decode cX11_worth 1 = .ok (.iload_n 1, 1) := by decide +kernel
theorem dX11_worth_2 : decode cX11_worth 2 = .ok (.invokevirtual 100, 3) := by decide +kernel
theorem dX11_worth_5 : decode cX11_worth 5 = .ok (.ifCond .ne 5, 3) := by decide +kernel
theorem dX11_worth_8 : decode cX11_worth 8 = .ok (.iconst (-1), 1) := by decide +kernel
theorem dX11_worth_9 : decode cX11_worth 9 = .ok (.ireturn, 1) := by decide +kernel
theorem dX11_worth_10 : decode cX11_worth 10 = .ok (.iload_n 2, 1) := by decide +kernel
theorem dX11_worth_11 : decode cX11_worth 11 = .ok (.i2l, 1) := by decide +kernel
theorem dX11_worth_12 : decode cX11_worth 12 = .ok (.lconst 0, 1) := by decide +kernel
theorem dX11_worth_13 : decode cX11_worth 13 = .ok (.ldc2_w 104, 3) := by decide +kernel
theorem dX11_worth_16 : decode cX11_worth 16 = .ok (.invokestatic 74, 3) := by decide +kernel
theorem dX11_worth_19 : decode cX11_worth 19 = .ok (.ifCond .ne 6, 3) := by decide +kernel
theorem dX11_worth_22 : decode cX11_worth 22 = .ok (.bipush (-2), 2) := by decide +kernel
theorem dX11_worth_24 : decode cX11_worth 24 = .ok (.ireturn, 1) := by decide +kernel
theorem dX11_worth_25 : decode cX11_worth 25 = .ok (.aload_n 0, 1) := by decide +kernel
theorem dX11_worth_26 : decode cX11_worth 26 = .ok (.getfield 16, 3) := by decide +kernel
theorem dX11_worth_29 : decode cX11_worth 29 = .ok (.iload_n 1, 1) := by decide +kernel
theorem dX11_worth_30 : decode cX11_worth 30 = .ok (.iaload, 1) := by decide +kernel
theorem dX11_worth_31 : decode cX11_worth 31 = .ok (.istore_n 3, 1) := by decide +kernel
theorem dX11_worth_32 : decode cX11_worth 32 = .ok (.aload_n 0, 1) := by decide +kernel
theorem dX11_worth_33 : decode cX11_worth 33 = .ok (.getfield 16, 3) := by decide +kernel
theorem dX11_worth_36 : decode cX11_worth 36 = .ok (.iload_n 1, 1) := by decide +kernel
theorem dX11_worth_37 : decode cX11_worth 37 = .ok (.iload_n 2, 1) := by decide +kernel
theorem dX11_worth_38 : decode cX11_worth 38 = .ok (.iastore, 1) := by decide +kernel
theorem dX11_worth_39 : decode cX11_worth 39 = .ok (.iload_n 3, 1) := by decide +kernel
theorem dX11_worth_40 : decode cX11_worth 40 = .ok (.ireturn, 1) := by decide +kernel
theorem dX11_bear_0 : decode cX11_bear 0 = .ok (.iload_n 1, 1) := by decide +kernel
theorem dX11_bear_1 : decode cX11_bear 1 = .ok (.i2l, 1) := by decide +kernel
theorem dX11_bear_2 : decode cX11_bear 2 = .ok (.lconst 1, 1) := by decide +kernel
theorem dX11_bear_3 : decode cX11_bear 3 = .ok (.ldc2_w 106, 3) := by decide +kernel
theorem dX11_bear_6 : decode cX11_bear 6 = .ok (.invokestatic 74, 3) := by decide +kernel
theorem dX11_bear_9 : decode cX11_bear 9 = .ok (.ifCond .ne 6, 3) := by decide +kernel
theorem dX11_bear_12 : decode cX11_bear 12 = .ok (.bipush (-2), 2) := by decide +kernel
theorem dX11_bear_14 : decode cX11_bear 14 = .ok (.ireturn, 1) := by decide +kernel
theorem dX11_bear_15 : decode cX11_bear 15 = .ok (.aload_n 0, 1) := by decide +kernel
theorem dX11_bear_16 : decode cX11_bear 16 = .ok (.getfield 67, 3) := by decide +kernel
theorem dX11_bear_19 : decode cX11_bear 19 = .ok (.istore_n 2, 1) := by decide +kernel
theorem dX11_bear_20 : decode cX11_bear 20 = .ok (.aload_n 0, 1) := by decide +kernel
theorem dX11_bear_21 : decode cX11_bear 21 = .ok (.iload_n 1, 1) := by decide +kernel
theorem dX11_bear_22 : decode cX11_bear 22 = .ok (.iload_n 2, 1) := by decide +kernel
theorem dX11_bear_23 : decode cX11_bear 23 = .ok (.if_icmp .ne 10, 3) := by decide +kernel
theorem dX11_bear_26 : decode cX11_bear 26 = .ok (.aload_n 0, 1) := by decide +kernel
theorem dX11_bear_27 : decode cX11_bear 27 = .ok (.getfield 89, 3) := by decide +kernel
theorem dX11_bear_30 : decode cX11_bear 30 = .ok (.goto 4, 3) := by decide +kernel
theorem dX11_bear_33 : decode cX11_bear 33 = .ok (.iconst 0, 1) := by decide +kernel
theorem dX11_bear_34 : decode cX11_bear 34 = .ok (.putfield 89, 3) := by decide +kernel
theorem dX11_bear_37 : decode cX11_bear 37 = .ok (.aload_n 0, 1) := by decide +kernel
theorem dX11_bear_38 : decode cX11_bear 38 = .ok (.iload_n 1, 1) := by decide +kernel
theorem dX11_bear_39 : decode cX11_bear 39 = .ok (.putfield 67, 3) := by decide +kernel
theorem dX11_bear_42 : decode cX11_bear 42 = .ok (.iload_n 2, 1) := by decide +kernel
theorem dX11_bear_43 : decode cX11_bear 43 = .ok (.ireturn, 1) := by decide +kernel
theorem dX11_far_0 : decode cX11_far 0 = .ok (.aload_n 0, 1) := by decide +kernel
theorem dX11_far_1 : decode cX11_far 1 = .ok (.iload_n 1, 1) := by decide +kernel
theorem dX11_far_2 : decode cX11_far 2 = .ok (.invokevirtual 100, 3) := by decide +kernel
theorem dX11_far_5 : decode cX11_far 5 = .ok (.ifCond .eq 24, 3) := by decide +kernel
theorem dX11_far_8 : decode cX11_far 8 = .ok (.aload_n 0, 1) := by decide +kernel
theorem dX11_far_9 : decode cX11_far 9 = .ok (.iload_n 2, 1) := by decide +kernel
theorem dX11_far_10 : decode cX11_far 10 = .ok (.invokevirtual 100, 3) := by decide +kernel
theorem dX11_far_13 : decode cX11_far 13 = .ok (.ifCond .eq 16, 3) := by decide +kernel
theorem dX11_far_16 : decode cX11_far 16 = .ok (.aload_n 0, 1) := by decide +kernel
theorem dX11_far_17 : decode cX11_far 17 = .ok (.getfield 19, 3) := by decide +kernel
theorem dX11_far_20 : decode cX11_far 20 = .ok (.iload_n 1, 1) := by decide +kernel
theorem dX11_far_21 : decode cX11_far 21 = .ok (.iload_n 2, 1) := by decide +kernel
theorem dX11_far_22 : decode cX11_far 22 = .ok (.invokestatic 92, 3) := by decide +kernel
theorem dX11_far_25 : decode cX11_far 25 = .ok (.iaload, 1) := by decide +kernel
theorem dX11_far_26 : decode cX11_far 26 = .ok (.goto 4, 3) := by decide +kernel
theorem dX11_far_29 : decode cX11_far 29 = .ok (.iconst (-1), 1) := by decide +kernel
theorem dX11_far_30 : decode cX11_far 30 = .ok (.ireturn, 1) := by decide +kernel
theorem dX11_isSet_0 : decode cX11_isSet 0 = .ok (.iload_n 1, 1) := by decide +kernel
theorem dX11_isSet_1 : decode cX11_isSet 1 = .ok (.i2l, 1) := by decide +kernel
theorem dX11_isSet_2 : decode cX11_isSet 2 = .ok (.lconst 0, 1) := by decide +kernel
theorem dX11_isSet_3 : decode cX11_isSet 3 = .ok (.iconst 1, 1) := by decide +kernel
theorem dX11_isSet_4 : decode cX11_isSet 4 = .ok (.aload_n 0, 1) := by decide +kernel
theorem dX11_isSet_5 : decode cX11_isSet 5 = .ok (.getfield 63, 3) := by decide +kernel
theorem dX11_isSet_8 : decode cX11_isSet 8 = .ok (.ishl, 1) := by decide +kernel
theorem dX11_isSet_9 : decode cX11_isSet 9 = .ok (.iconst 1, 1) := by decide +kernel
theorem dX11_isSet_10 : decode cX11_isSet 10 = .ok (.isub, 1) := by decide +kernel
theorem dX11_isSet_11 : decode cX11_isSet 11 = .ok (.i2l, 1) := by decide +kernel
theorem dX11_isSet_12 : decode cX11_isSet 12 = .ok (.invokestatic 74, 3) := by decide +kernel
theorem dX11_isSet_15 : decode cX11_isSet 15 = .ok (.ireturn, 1) := by decide +kernel
theorem dX11_awayOf_0 : decode cX11_awayOf 0 = .ok (.bipush 99, 2) := by decide +kernel
theorem dX11_awayOf_2 : decode cX11_awayOf 2 = .ok (.istore_n 3, 1) := by decide +kernel
theorem dX11_awayOf_3 : decode cX11_awayOf 3 = .ok (.iconst 0, 1) := by decide +kernel
theorem dX11_awayOf_4 : decode cX11_awayOf 4 = .ok (.istore 4, 2) := by decide +kernel
theorem dX11_awayOf_6 : decode cX11_awayOf 6 = .ok (.iload 4, 2) := by decide +kernel
theorem dX11_awayOf_8 : decode cX11_awayOf 8 = .ok (.aload_n 0, 1) := by decide +kernel
theorem dX11_awayOf_9 : decode cX11_awayOf 9 = .ok (.getfield 63, 3) := by decide +kernel
theorem dX11_awayOf_12 : decode cX11_awayOf 12 = .ok (.if_icmp .ge 50, 3) := by decide +kernel
theorem dX11_awayOf_15 : decode cX11_awayOf 15 = .ok (.iload_n 2, 1) := by decide +kernel
theorem dX11_awayOf_16 : decode cX11_awayOf 16 = .ok (.iload 4, 2) := by decide +kernel
theorem dX11_awayOf_18 : decode cX11_awayOf 18 = .ok (.ishr, 1) := by decide +kernel
theorem dX11_awayOf_19 : decode cX11_awayOf 19 = .ok (.iconst 1, 1) := by decide +kernel
theorem dX11_awayOf_20 : decode cX11_awayOf 20 = .ok (.iand, 1) := by decide +kernel
theorem dX11_awayOf_21 : decode cX11_awayOf 21 = .ok (.iconst 1, 1) := by decide +kernel
theorem dX11_awayOf_22 : decode cX11_awayOf 22 = .ok (.if_icmp .ne 32, 3) := by decide +kernel
theorem dX11_awayOf_25 : decode cX11_awayOf 25 = .ok (.aload_n 0, 1) := by decide +kernel
theorem dX11_awayOf_26 : decode cX11_awayOf 26 = .ok (.getfield 19, 3) := by decide +kernel
theorem dX11_awayOf_29 : decode cX11_awayOf 29 = .ok (.iload_n 1, 1) := by decide +kernel
theorem dX11_awayOf_30 : decode cX11_awayOf 30 = .ok (.iload 4, 2) := by decide +kernel
theorem dX11_awayOf_32 : decode cX11_awayOf 32 = .ok (.invokestatic 92, 3) := by decide +kernel
theorem dX11_awayOf_35 : decode cX11_awayOf 35 = .ok (.iaload, 1) := by decide +kernel
theorem dX11_awayOf_36 : decode cX11_awayOf 36 = .ok (.iload_n 3, 1) := by decide +kernel
theorem dX11_awayOf_37 : decode cX11_awayOf 37 = .ok (.if_icmp .ge 17, 3) := by decide +kernel
theorem dX11_awayOf_40 : decode cX11_awayOf 40 = .ok (.aload_n 0, 1) := by decide +kernel
theorem dX11_awayOf_41 : decode cX11_awayOf 41 = .ok (.getfield 19, 3) := by decide +kernel
theorem dX11_awayOf_44 : decode cX11_awayOf 44 = .ok (.iload_n 1, 1) := by decide +kernel
theorem dX11_awayOf_45 : decode cX11_awayOf 45 = .ok (.iload 4, 2) := by decide +kernel
theorem dX11_awayOf_47 : decode cX11_awayOf 47 = .ok (.invokestatic 92, 3) := by decide +kernel
theorem dX11_awayOf_50 : decode cX11_awayOf 50 = .ok (.iaload, 1) := by decide +kernel
theorem dX11_awayOf_51 : decode cX11_awayOf 51 = .ok (.goto 4, 3) := by decide +kernel
theorem dX11_awayOf_54 : decode cX11_awayOf 54 = .ok (.iload_n 3, 1) := by decide +kernel
theorem dX11_awayOf_55 : decode cX11_awayOf 55 = .ok (.istore_n 3, 1) := by decide +kernel
theorem dX11_awayOf_56 : decode cX11_awayOf 56 = .ok (.iinc 4 1, 3) := by decide +kernel
theorem dX11_awayOf_59 : decode cX11_awayOf 59 = .ok (.goto (-53), 3) := by decide +kernel
theorem dX11_awayOf_62 : decode cX11_awayOf 62 = .ok (.iload_n 3, 1) := by decide +kernel
theorem dX11_awayOf_63 : decode cX11_awayOf 63 = .ok (.ireturn, 1) := by decide +kernel
theorem dX11_mayOf_0 : decode cX11_mayOf 0 = .ok (.iconst 0, 1) := by decide +kernel
theorem dX11_mayOf_1 : decode cX11_mayOf 1 = .ok (.istore_n 2, 1) := by decide +kernel
theorem dX11_mayOf_2 : decode cX11_mayOf 2 = .ok (.iconst 0, 1) := by decide +kernel
theorem dX11_mayOf_3 : decode cX11_mayOf 3 = .ok (.istore_n 3, 1) := by decide +kernel
theorem dX11_mayOf_4 : decode cX11_mayOf 4 = .ok (.iload_n 3, 1) := by decide +kernel
theorem dX11_mayOf_5 : decode cX11_mayOf 5 = .ok (.aload_n 0, 1) := by decide +kernel
theorem dX11_mayOf_6 : decode cX11_mayOf 6 = .ok (.getfield 63, 3) := by decide +kernel
theorem dX11_mayOf_9 : decode cX11_mayOf 9 = .ok (.if_icmp .ge 32, 3) := by decide +kernel
theorem dX11_mayOf_12 : decode cX11_mayOf 12 = .ok (.iload_n 2, 1) := by decide +kernel
theorem dX11_mayOf_13 : decode cX11_mayOf 13 = .ok (.aload_n 0, 1) := by decide +kernel
theorem dX11_mayOf_14 : decode cX11_mayOf 14 = .ok (.iload_n 3, 1) := by decide +kernel
theorem dX11_mayOf_15 : decode cX11_mayOf 15 = .ok (.iload_n 1, 1) := by decide +kernel
theorem dX11_mayOf_16 : decode cX11_mayOf 16 = .ok (.invokevirtual 108, 3) := by decide +kernel
theorem dX11_mayOf_19 : decode cX11_mayOf 19 = .ok (.aload_n 0, 1) := by decide +kernel
theorem dX11_mayOf_20 : decode cX11_mayOf 20 = .ok (.getfield 67, 3) := by decide +kernel
theorem dX11_mayOf_23 : decode cX11_mayOf 23 = .ok (.if_icmp .lt 9, 3) := by decide +kernel
theorem dX11_mayOf_26 : decode cX11_mayOf 26 = .ok (.iconst 1, 1) := by decide +kernel
theorem dX11_mayOf_27 : decode cX11_mayOf 27 = .ok (.iload_n 3, 1) := by decide +kernel
theorem dX11_mayOf_28 : decode cX11_mayOf 28 = .ok (.ishl, 1) := by decide +kernel
theorem dX11_mayOf_29 : decode cX11_mayOf 29 = .ok (.goto 4, 3) := by decide +kernel
theorem dX11_mayOf_32 : decode cX11_mayOf 32 = .ok (.iconst 0, 1) := by decide +kernel
theorem dX11_mayOf_33 : decode cX11_mayOf 33 = .ok (.ior, 1) := by decide +kernel
theorem dX11_mayOf_34 : decode cX11_mayOf 34 = .ok (.istore_n 2, 1) := by decide +kernel
theorem dX11_mayOf_35 : decode cX11_mayOf 35 = .ok (.iinc 3 1, 3) := by decide +kernel
theorem dX11_mayOf_38 : decode cX11_mayOf 38 = .ok (.goto (-34), 3) := by decide +kernel
theorem dX11_mayOf_41 : decode cX11_mayOf 41 = .ok (.iload_n 2, 1) := by decide +kernel
theorem dX11_mayOf_42 : decode cX11_mayOf 42 = .ok (.ireturn, 1) := by decide +kernel
theorem dX11_isFilled_0 : decode cX11_isFilled 0 = .ok (.iconst 1, 1) := by decide +kernel
theorem dX11_isFilled_1 : decode cX11_isFilled 1 = .ok (.istore_n 2, 1) := by decide +kernel
theorem dX11_isFilled_2 : decode cX11_isFilled 2 = .ok (.iconst 0, 1) := by decide +kernel
theorem dX11_isFilled_3 : decode cX11_isFilled 3 = .ok (.istore_n 3, 1) := by decide +kernel
theorem dX11_isFilled_4 : decode cX11_isFilled 4 = .ok (.iload_n 3, 1) := by decide +kernel
theorem dX11_isFilled_5 : decode cX11_isFilled 5 = .ok (.aload_n 0, 1) := by decide +kernel
theorem dX11_isFilled_6 : decode cX11_isFilled 6 = .ok (.getfield 63, 3) := by decide +kernel
theorem dX11_isFilled_9 : decode cX11_isFilled 9 = .ok (.if_icmp .ge 46, 3) := by decide +kernel
theorem dX11_isFilled_12 : decode cX11_isFilled 12 = .ok (.iload_n 2, 1) := by decide +kernel
theorem dX11_isFilled_13 : decode cX11_isFilled 13 = .ok (.ifCond .eq 34, 3) := by decide +kernel
theorem dX11_isFilled_16 : decode cX11_isFilled 16 = .ok (.iload_n 1, 1) := by decide +kernel
theorem dX11_isFilled_17 : decode cX11_isFilled 17 = .ok (.iload_n 3, 1) := by decide +kernel
theorem dX11_isFilled_18 : decode cX11_isFilled 18 = .ok (.ishr, 1) := by decide +kernel
theorem dX11_isFilled_19 : decode cX11_isFilled 19 = .ok (.iconst 1, 1) := by decide +kernel
theorem dX11_isFilled_20 : decode cX11_isFilled 20 = .ok (.iand, 1) := by decide +kernel
theorem dX11_isFilled_21 : decode cX11_isFilled 21 = .ok (.ifCond .eq 22, 3) := by decide +kernel
theorem dX11_isFilled_24 : decode cX11_isFilled 24 = .ok (.aload_n 0, 1) := by decide +kernel
theorem dX11_isFilled_25 : decode cX11_isFilled 25 = .ok (.iload_n 3, 1) := by decide +kernel
theorem dX11_isFilled_26 : decode cX11_isFilled 26 = .ok (.iload_n 1, 1) := by decide +kernel
theorem dX11_isFilled_27 : decode cX11_isFilled 27 = .ok (.iconst 1, 1) := by decide +kernel
theorem dX11_isFilled_28 : decode cX11_isFilled 28 = .ok (.iload_n 3, 1) := by decide +kernel
theorem dX11_isFilled_29 : decode cX11_isFilled 29 = .ok (.ishl, 1) := by decide +kernel
theorem dX11_isFilled_30 : decode cX11_isFilled 30 = .ok (.iconst (-1), 1) := by decide +kernel
theorem dX11_isFilled_31 : decode cX11_isFilled 31 = .ok (.ixor, 1) := by decide +kernel
theorem dX11_isFilled_32 : decode cX11_isFilled 32 = .ok (.iand, 1) := by decide +kernel
theorem dX11_isFilled_33 : decode cX11_isFilled 33 = .ok (.invokevirtual 108, 3) := by decide +kernel
theorem dX11_isFilled_36 : decode cX11_isFilled 36 = .ok (.aload_n 0, 1) := by decide +kernel
theorem dX11_isFilled_37 : decode cX11_isFilled 37 = .ok (.getfield 67, 3) := by decide +kernel
theorem dX11_isFilled_40 : decode cX11_isFilled 40 = .ok (.if_icmp .lt 7, 3) := by decide +kernel
theorem dX11_isFilled_43 : decode cX11_isFilled 43 = .ok (.iconst 1, 1) := by decide +kernel
theorem dX11_isFilled_44 : decode cX11_isFilled 44 = .ok (.goto 4, 3) := by decide +kernel
theorem dX11_isFilled_47 : decode cX11_isFilled 47 = .ok (.iconst 0, 1) := by decide +kernel
theorem dX11_isFilled_48 : decode cX11_isFilled 48 = .ok (.istore_n 2, 1) := by decide +kernel
theorem dX11_isFilled_49 : decode cX11_isFilled 49 = .ok (.iinc 3 1, 3) := by decide +kernel
theorem dX11_isFilled_52 : decode cX11_isFilled 52 = .ok (.goto (-48), 3) := by decide +kernel
theorem dX11_isFilled_55 : decode cX11_isFilled 55 = .ok (.iload_n 2, 1) := by decide +kernel
theorem dX11_isFilled_56 : decode cX11_isFilled 56 = .ok (.ireturn, 1) := by decide +kernel
theorem dX11_nearOnes_0 : decode cX11_nearOnes 0 = .ok (.iconst 0, 1) := by decide +kernel
theorem dX11_nearOnes_1 : decode cX11_nearOnes 1 = .ok (.istore_n 2, 1) := by decide +kernel
theorem dX11_nearOnes_2 : decode cX11_nearOnes 2 = .ok (.iconst 0, 1) := by decide +kernel
theorem dX11_nearOnes_3 : decode cX11_nearOnes 3 = .ok (.istore_n 3, 1) := by decide +kernel
theorem dX11_nearOnes_4 : decode cX11_nearOnes 4 = .ok (.iload_n 3, 1) := by decide +kernel
theorem dX11_nearOnes_5 : decode cX11_nearOnes 5 = .ok (.aload_n 0, 1) := by decide +kernel
theorem dX11_nearOnes_6 : decode cX11_nearOnes 6 = .ok (.getfield 63, 3) := by decide +kernel
theorem dX11_nearOnes_9 : decode cX11_nearOnes 9 = .ok (.if_icmp .ge 31, 3) := by decide +kernel
theorem dX11_nearOnes_12 : decode cX11_nearOnes 12 = .ok (.iload_n 2, 1) := by decide +kernel
theorem dX11_nearOnes_13 : decode cX11_nearOnes 13 = .ok (.aload_n 0, 1) := by decide +kernel
theorem dX11_nearOnes_14 : decode cX11_nearOnes 14 = .ok (.getfield 19, 3) := by decide +kernel
theorem dX11_nearOnes_17 : decode cX11_nearOnes 17 = .ok (.iload_n 1, 1) := by decide +kernel
theorem dX11_nearOnes_18 : decode cX11_nearOnes 18 = .ok (.iload_n 3, 1) := by decide +kernel
theorem dX11_nearOnes_19 : decode cX11_nearOnes 19 = .ok (.invokestatic 92, 3) := by decide +kernel
theorem dX11_nearOnes_22 : decode cX11_nearOnes 22 = .ok (.iaload, 1) := by decide +kernel
theorem dX11_nearOnes_23 : decode cX11_nearOnes 23 = .ok (.iconst 1, 1) := by decide +kernel
theorem dX11_nearOnes_24 : decode cX11_nearOnes 24 = .ok (.if_icmp .ne 7, 3) := by decide +kernel
theorem dX11_nearOnes_27 : decode cX11_nearOnes 27 = .ok (.iconst 1, 1) := by decide +kernel
theorem dX11_nearOnes_28 : decode cX11_nearOnes 28 = .ok (.goto 4, 3) := by decide +kernel
theorem dX11_nearOnes_31 : decode cX11_nearOnes 31 = .ok (.iconst 0, 1) := by decide +kernel
theorem dX11_nearOnes_32 : decode cX11_nearOnes 32 = .ok (.iadd, 1) := by decide +kernel
theorem dX11_nearOnes_33 : decode cX11_nearOnes 33 = .ok (.istore_n 2, 1) := by decide +kernel
theorem dX11_nearOnes_34 : decode cX11_nearOnes 34 = .ok (.iinc 3 1, 3) := by decide +kernel
theorem dX11_nearOnes_37 : decode cX11_nearOnes 37 = .ok (.goto (-33), 3) := by decide +kernel
theorem dX11_nearOnes_40 : decode cX11_nearOnes 40 = .ok (.iload_n 2, 1) := by decide +kernel
theorem dX11_nearOnes_41 : decode cX11_nearOnes 41 = .ok (.ireturn, 1) := by decide +kernel
theorem dX11_rankOf_0 : decode cX11_rankOf 0 = .ok (.aload_n 0, 1) := by decide +kernel
theorem dX11_rankOf_1 : decode cX11_rankOf 1 = .ok (.iload_n 1, 1) := by decide +kernel
theorem dX11_rankOf_2 : decode cX11_rankOf 2 = .ok (.iload_n 2, 1) := by decide +kernel
theorem dX11_rankOf_3 : decode cX11_rankOf 3 = .ok (.invokevirtual 108, 3) := by decide +kernel
theorem dX11_rankOf_6 : decode cX11_rankOf 6 = .ok (.istore 4, 2) := by decide +kernel
theorem dX11_rankOf_8 : decode cX11_rankOf 8 = .ok (.iload_n 3, 1) := by decide +kernel
theorem dX11_rankOf_9 : decode cX11_rankOf 9 = .ok (.tableswitch 70 0 4 #[35, 48, 61, 64, 66], 35) := by decide +kernel
theorem dX11_rankOf_44 : decode cX11_rankOf 44 = .ok (.bipush 100, 2) := by decide +kernel
theorem dX11_rankOf_46 : decode cX11_rankOf 46 = .ok (.iload 4, 2) := by decide +kernel
theorem dX11_rankOf_48 : decode cX11_rankOf 48 = .ok (.imul, 1) := by decide +kernel
theorem dX11_rankOf_49 : decode cX11_rankOf 49 = .ok (.aload_n 0, 1) := by decide +kernel
theorem dX11_rankOf_50 : decode cX11_rankOf 50 = .ok (.getfield 16, 3) := by decide +kernel
theorem dX11_rankOf_53 : decode cX11_rankOf 53 = .ok (.iload_n 1, 1) := by decide +kernel
theorem dX11_rankOf_54 : decode cX11_rankOf 54 = .ok (.iaload, 1) := by decide +kernel
theorem dX11_rankOf_55 : decode cX11_rankOf 55 = .ok (.iadd, 1) := by decide +kernel
theorem dX11_rankOf_56 : decode cX11_rankOf 56 = .ok (.ireturn, 1) := by decide +kernel
theorem dX11_rankOf_57 : decode cX11_rankOf 57 = .ok (.bipush 100, 2) := by decide +kernel
theorem dX11_rankOf_59 : decode cX11_rankOf 59 = .ok (.aload_n 0, 1) := by decide +kernel
theorem dX11_rankOf_60 : decode cX11_rankOf 60 = .ok (.getfield 16, 3) := by decide +kernel
theorem dX11_rankOf_63 : decode cX11_rankOf 63 = .ok (.iload_n 1, 1) := by decide +kernel
theorem dX11_rankOf_64 : decode cX11_rankOf 64 = .ok (.iaload, 1) := by decide +kernel
theorem dX11_rankOf_65 : decode cX11_rankOf 65 = .ok (.imul, 1) := by decide +kernel
theorem dX11_rankOf_66 : decode cX11_rankOf 66 = .ok (.iload 4, 2) := by decide +kernel
theorem dX11_rankOf_68 : decode cX11_rankOf 68 = .ok (.iadd, 1) := by decide +kernel
theorem dX11_rankOf_69 : decode cX11_rankOf 69 = .ok (.ireturn, 1) := by decide +kernel
theorem dX11_rankOf_70 : decode cX11_rankOf 70 = .ok (.iload_n 1, 1) := by decide +kernel
theorem dX11_rankOf_71 : decode cX11_rankOf 71 = .ok (.ineg, 1) := by decide +kernel
theorem dX11_rankOf_72 : decode cX11_rankOf 72 = .ok (.ireturn, 1) := by decide +kernel
theorem dX11_rankOf_73 : decode cX11_rankOf 73 = .ok (.iload_n 1, 1) := by decide +kernel
theorem dX11_rankOf_74 : decode cX11_rankOf 74 = .ok (.ireturn, 1) := by decide +kernel
theorem dX11_rankOf_75 : decode cX11_rankOf 75 = .ok (.iload 4, 2) := by decide +kernel
theorem dX11_rankOf_77 : decode cX11_rankOf 77 = .ok (.ineg, 1) := by decide +kernel
theorem dX11_rankOf_78 : decode cX11_rankOf 78 = .ok (.ireturn, 1) := by decide +kernel
theorem dX11_rankOf_79 : decode cX11_rankOf 79 = .ok (.iload 4, 2) := by decide +kernel
theorem dX11_rankOf_81 : decode cX11_rankOf 81 = .ok (.bipush 100, 2) := by decide +kernel
theorem dX11_rankOf_83 : decode cX11_rankOf 83 = .ok (.aload_n 0, 1) := by decide +kernel
theorem dX11_rankOf_84 : decode cX11_rankOf 84 = .ok (.iload_n 1, 1) := by decide +kernel
theorem dX11_rankOf_85 : decode cX11_rankOf 85 = .ok (.invokevirtual 111, 3) := by decide +kernel
theorem dX11_rankOf_88 : decode cX11_rankOf 88 = .ok (.imul, 1) := by decide +kernel
theorem dX11_rankOf_89 : decode cX11_rankOf 89 = .ok (.isub, 1) := by decide +kernel
theorem dX11_rankOf_90 : decode cX11_rankOf 90 = .ok (.ireturn, 1) := by decide +kernel
theorem dX11_takenBy_0 : decode cX11_takenBy 0 = .ok (.aload_n 0, 1) := by decide +kernel
theorem dX11_takenBy_1 : decode cX11_takenBy 1 = .ok (.iload_n 1, 1) := by decide +kernel
theorem dX11_takenBy_2 : decode cX11_takenBy 2 = .ok (.invokevirtual 115, 3) := by decide +kernel
theorem dX11_takenBy_5 : decode cX11_takenBy 5 = .ok (.istore_n 3, 1) := by decide +kernel
theorem dX11_takenBy_6 : decode cX11_takenBy 6 = .ok (.bipush (-6), 2) := by decide +kernel
theorem dX11_takenBy_8 : decode cX11_takenBy 8 = .ok (.istore 4, 2) := by decide +kernel
theorem dX11_takenBy_10 : decode cX11_takenBy 10 = .ok (.iconst 0, 1) := by decide +kernel
theorem dX11_takenBy_11 : decode cX11_takenBy 11 = .ok (.istore 5, 2) := by decide +kernel
theorem dX11_takenBy_13 : decode cX11_takenBy 13 = .ok (.iconst 0, 1) := by decide +kernel
theorem dX11_takenBy_14 : decode cX11_takenBy 14 = .ok (.istore 6, 2) := by decide +kernel
theorem dX11_takenBy_16 : decode cX11_takenBy 16 = .ok (.iload 6, 2) := by decide +kernel
theorem dX11_takenBy_18 : decode cX11_takenBy 18 = .ok (.aload_n 0, 1) := by decide +kernel
theorem dX11_takenBy_19 : decode cX11_takenBy 19 = .ok (.getfield 63, 3) := by decide +kernel
theorem dX11_takenBy_22 : decode cX11_takenBy 22 = .ok (.if_icmp .ge 49, 3) := by decide +kernel
theorem dX11_takenBy_25 : decode cX11_takenBy 25 = .ok (.iload_n 3, 1) := by decide +kernel
theorem dX11_takenBy_26 : decode cX11_takenBy 26 = .ok (.iload 6, 2) := by decide +kernel
theorem dX11_takenBy_28 : decode cX11_takenBy 28 = .ok (.ishr, 1) := by decide +kernel
theorem dX11_takenBy_29 : decode cX11_takenBy 29 = .ok (.iconst 1, 1) := by decide +kernel
theorem dX11_takenBy_30 : decode cX11_takenBy 30 = .ok (.iand, 1) := by decide +kernel
theorem dX11_takenBy_31 : decode cX11_takenBy 31 = .ok (.iconst 1, 1) := by decide +kernel
theorem dX11_takenBy_32 : decode cX11_takenBy 32 = .ok (.if_icmp .ne 33, 3) := by decide +kernel
theorem dX11_takenBy_35 : decode cX11_takenBy 35 = .ok (.aload_n 0, 1) := by decide +kernel
theorem dX11_takenBy_36 : decode cX11_takenBy 36 = .ok (.iload 6, 2) := by decide +kernel
theorem dX11_takenBy_38 : decode cX11_takenBy 38 = .ok (.iload_n 1, 1) := by decide +kernel
theorem dX11_takenBy_39 : decode cX11_takenBy 39 = .ok (.iload_n 2, 1) := by decide +kernel
theorem dX11_takenBy_40 : decode cX11_takenBy 40 = .ok (.invokevirtual 118, 3) := by decide +kernel
theorem dX11_takenBy_43 : decode cX11_takenBy 43 = .ok (.istore 7, 2) := by decide +kernel
theorem dX11_takenBy_45 : decode cX11_takenBy 45 = .ok (.iload 4, 2) := by decide +kernel
theorem dX11_takenBy_47 : decode cX11_takenBy 47 = .ok (.ifCond .lt 10, 3) := by decide +kernel
theorem dX11_takenBy_50 : decode cX11_takenBy 50 = .ok (.iload 7, 2) := by decide +kernel
theorem dX11_takenBy_52 : decode cX11_takenBy 52 = .ok (.iload 5, 2) := by decide +kernel
theorem dX11_takenBy_54 : decode cX11_takenBy 54 = .ok (.if_icmp .le 11, 3) := by decide +kernel
theorem dX11_takenBy_57 : decode cX11_takenBy 57 = .ok (.iload 6, 2) := by decide +kernel
theorem dX11_takenBy_59 : decode cX11_takenBy 59 = .ok (.istore 4, 2) := by decide +kernel
theorem dX11_takenBy_61 : decode cX11_takenBy 61 = .ok (.iload 7, 2) := by decide +kernel
theorem dX11_takenBy_63 : decode cX11_takenBy 63 = .ok (.istore 5, 2) := by decide +kernel
theorem dX11_takenBy_65 : decode cX11_takenBy 65 = .ok (.iinc 6 1, 3) := by decide +kernel
theorem dX11_takenBy_68 : decode cX11_takenBy 68 = .ok (.goto (-52), 3) := by decide +kernel
theorem dX11_takenBy_71 : decode cX11_takenBy 71 = .ok (.iload 4, 2) := by decide +kernel
theorem dX11_takenBy_73 : decode cX11_takenBy 73 = .ok (.ireturn, 1) := by decide +kernel
theorem dX11_filledBy_0 : decode cX11_filledBy 0 = .ok (.iload_n 1, 1) := by decide +kernel
theorem dX11_filledBy_1 : decode cX11_filledBy 1 = .ok (.istore_n 3, 1) := by decide +kernel
theorem dX11_filledBy_2 : decode cX11_filledBy 2 = .ok (.aload_n 0, 1) := by decide +kernel
theorem dX11_filledBy_3 : decode cX11_filledBy 3 = .ok (.iload_n 3, 1) := by decide +kernel
theorem dX11_filledBy_4 : decode cX11_filledBy 4 = .ok (.iload_n 2, 1) := by decide +kernel
theorem dX11_filledBy_5 : decode cX11_filledBy 5 = .ok (.invokevirtual 122, 3) := by decide +kernel
theorem dX11_filledBy_8 : decode cX11_filledBy 8 = .ok (.istore 4, 2) := by decide +kernel
theorem dX11_filledBy_10 : decode cX11_filledBy 10 = .ok (.iload 4, 2) := by decide +kernel
theorem dX11_filledBy_12 : decode cX11_filledBy 12 = .ok (.ifCond .lt 21, 3) := by decide +kernel
theorem dX11_filledBy_15 : decode cX11_filledBy 15 = .ok (.iload_n 3, 1) := by decide +kernel
theorem dX11_filledBy_16 : decode cX11_filledBy 16 = .ok (.iconst 1, 1) := by decide +kernel
theorem dX11_filledBy_17 : decode cX11_filledBy 17 = .ok (.iload 4, 2) := by decide +kernel
theorem dX11_filledBy_19 : decode cX11_filledBy 19 = .ok (.ishl, 1) := by decide +kernel
theorem dX11_filledBy_20 : decode cX11_filledBy 20 = .ok (.ior, 1) := by decide +kernel
theorem dX11_filledBy_21 : decode cX11_filledBy 21 = .ok (.istore_n 3, 1) := by decide +kernel
theorem dX11_filledBy_22 : decode cX11_filledBy 22 = .ok (.aload_n 0, 1) := by decide +kernel
theorem dX11_filledBy_23 : decode cX11_filledBy 23 = .ok (.iload_n 3, 1) := by decide +kernel
theorem dX11_filledBy_24 : decode cX11_filledBy 24 = .ok (.iload_n 2, 1) := by decide +kernel
theorem dX11_filledBy_25 : decode cX11_filledBy 25 = .ok (.invokevirtual 122, 3) := by decide +kernel
theorem dX11_filledBy_28 : decode cX11_filledBy 28 = .ok (.istore 4, 2) := by decide +kernel
theorem dX11_filledBy_30 : decode cX11_filledBy 30 = .ok (.goto (-20), 3) := by decide +kernel
theorem dX11_filledBy_33 : decode cX11_filledBy 33 = .ok (.iload_n 3, 1) := by decide +kernel
theorem dX11_filledBy_34 : decode cX11_filledBy 34 = .ok (.ireturn, 1) := by decide +kernel
theorem dX11_isHabit_0 : decode cX11_isHabit 0 = .ok (.iload_n 0, 1) := by decide +kernel
theorem dX11_isHabit_1 : decode cX11_isHabit 1 = .ok (.i2l, 1) := by decide +kernel
theorem dX11_isHabit_2 : decode cX11_isHabit 2 = .ok (.lconst 0, 1) := by decide +kernel
theorem dX11_isHabit_3 : decode cX11_isHabit 3 = .ok (.ldc2_w 125, 3) := by decide +kernel
theorem dX11_isHabit_6 : decode cX11_isHabit 6 = .ok (.invokestatic 74, 3) := by decide +kernel
theorem dX11_isHabit_9 : decode cX11_isHabit 9 = .ok (.ireturn, 1) := by decide +kernel
theorem dX11_may_0 : decode cX11_may 0 = .ok (.aload_n 0, 1) := by decide +kernel
theorem dX11_may_1 : decode cX11_may 1 = .ok (.iload_n 1, 1) := by decide +kernel
theorem dX11_may_2 : decode cX11_may 2 = .ok (.invokevirtual 127, 3) := by decide +kernel
theorem dX11_may_5 : decode cX11_may 5 = .ok (.ifCond .ne 6, 3) := by decide +kernel
theorem dX11_may_8 : decode cX11_may 8 = .ok (.bipush (-2), 2) := by decide +kernel
theorem dX11_may_10 : decode cX11_may 10 = .ok (.ireturn, 1) := by decide +kernel
theorem dX11_may_11 : decode cX11_may 11 = .ok (.aload_n 0, 1) := by decide +kernel
theorem dX11_may_12 : decode cX11_may 12 = .ok (.iload_n 1, 1) := by decide +kernel
theorem dX11_may_13 : decode cX11_may 13 = .ok (.invokevirtual 130, 3) := by decide +kernel
theorem dX11_may_16 : decode cX11_may 16 = .ok (.ifCond .eq 11, 3) := by decide +kernel
theorem dX11_may_19 : decode cX11_may 19 = .ok (.aload_n 0, 1) := by decide +kernel
theorem dX11_may_20 : decode cX11_may 20 = .ok (.iload_n 1, 1) := by decide +kernel
theorem dX11_may_21 : decode cX11_may 21 = .ok (.invokevirtual 115, 3) := by decide +kernel
theorem dX11_may_24 : decode cX11_may 24 = .ok (.goto 5, 3) := by decide +kernel
theorem dX11_may_27 : decode cX11_may 27 = .ok (.bipush (-3), 2) := by decide +kernel
theorem dX11_may_29 : decode cX11_may 29 = .ok (.ireturn, 1) := by decide +kernel
theorem dX11_takes_0 : decode cX11_takes 0 = .ok (.aload_n 0, 1) := by decide +kernel
theorem dX11_takes_1 : decode cX11_takes 1 = .ok (.iload_n 1, 1) := by decide +kernel
theorem dX11_takes_2 : decode cX11_takes 2 = .ok (.invokevirtual 127, 3) := by decide +kernel
theorem dX11_takes_5 : decode cX11_takes 5 = .ok (.ifCond .eq 10, 3) := by decide +kernel
theorem dX11_takes_8 : decode cX11_takes 8 = .ok (.iload_n 2, 1) := by decide +kernel
theorem dX11_takes_9 : decode cX11_takes 9 = .ok (.invokestatic 133, 3) := by decide +kernel
theorem dX11_takes_12 : decode cX11_takes 12 = .ok (.ifCond .ne 6, 3) := by decide +kernel
theorem dX11_takes_15 : decode cX11_takes 15 = .ok (.bipush (-2), 2) := by decide +kernel
theorem dX11_takes_17 : decode cX11_takes 17 = .ok (.ireturn, 1) := by decide +kernel
theorem dX11_takes_18 : decode cX11_takes 18 = .ok (.aload_n 0, 1) := by decide +kernel
theorem dX11_takes_19 : decode cX11_takes 19 = .ok (.iload_n 1, 1) := by decide +kernel
theorem dX11_takes_20 : decode cX11_takes 20 = .ok (.invokevirtual 130, 3) := by decide +kernel
theorem dX11_takes_23 : decode cX11_takes 23 = .ok (.ifCond .eq 12, 3) := by decide +kernel
theorem dX11_takes_26 : decode cX11_takes 26 = .ok (.aload_n 0, 1) := by decide +kernel
theorem dX11_takes_27 : decode cX11_takes 27 = .ok (.iload_n 1, 1) := by decide +kernel
theorem dX11_takes_28 : decode cX11_takes 28 = .ok (.iload_n 2, 1) := by decide +kernel
theorem dX11_takes_29 : decode cX11_takes 29 = .ok (.invokevirtual 122, 3) := by decide +kernel
theorem dX11_takes_32 : decode cX11_takes 32 = .ok (.goto 5, 3) := by decide +kernel
theorem dX11_takes_35 : decode cX11_takes 35 = .ok (.bipush (-3), 2) := by decide +kernel
theorem dX11_takes_37 : decode cX11_takes 37 = .ok (.ireturn, 1) := by decide +kernel
theorem dX11_fill_0 : decode cX11_fill 0 = .ok (.aload_n 0, 1) := by decide +kernel
theorem dX11_fill_1 : decode cX11_fill 1 = .ok (.iload_n 1, 1) := by decide +kernel
theorem dX11_fill_2 : decode cX11_fill 2 = .ok (.invokevirtual 127, 3) := by decide +kernel
theorem dX11_fill_5 : decode cX11_fill 5 = .ok (.ifCond .eq 10, 3) := by decide +kernel
theorem dX11_fill_8 : decode cX11_fill 8 = .ok (.iload_n 2, 1) := by decide +kernel
theorem dX11_fill_9 : decode cX11_fill 9 = .ok (.invokestatic 133, 3) := by decide +kernel
theorem dX11_fill_12 : decode cX11_fill 12 = .ok (.ifCond .ne 6, 3) := by decide +kernel
theorem dX11_fill_15 : decode cX11_fill 15 = .ok (.bipush (-2), 2) := by decide +kernel
theorem dX11_fill_17 : decode cX11_fill 17 = .ok (.ireturn, 1) := by decide +kernel
theorem dX11_fill_18 : decode cX11_fill 18 = .ok (.aload_n 0, 1) := by decide +kernel
theorem dX11_fill_19 : decode cX11_fill 19 = .ok (.iload_n 1, 1) := by decide +kernel
theorem dX11_fill_20 : decode cX11_fill 20 = .ok (.invokevirtual 130, 3) := by decide +kernel
theorem dX11_fill_23 : decode cX11_fill 23 = .ok (.ifCond .eq 12, 3) := by decide +kernel
theorem dX11_fill_26 : decode cX11_fill 26 = .ok (.aload_n 0, 1) := by decide +kernel
theorem dX11_fill_27 : decode cX11_fill 27 = .ok (.iload_n 1, 1) := by decide +kernel
theorem dX11_fill_28 : decode cX11_fill 28 = .ok (.iload_n 2, 1) := by decide +kernel
theorem dX11_fill_29 : decode cX11_fill 29 = .ok (.invokevirtual 136, 3) := by decide +kernel
theorem dX11_fill_32 : decode cX11_fill 32 = .ok (.goto 5, 3) := by decide +kernel
theorem dX11_fill_35 : decode cX11_fill 35 = .ok (.bipush (-3), 2) := by decide +kernel
theorem dX11_fill_37 : decode cX11_fill 37 = .ok (.ireturn, 1) := by decide +kernel
theorem dX11_findMays_0 : decode cX11_findMays 0 = .ok (.iconst 1, 1) := by decide +kernel
theorem dX11_findMays_1 : decode cX11_findMays 1 = .ok (.aload_n 0, 1) := by decide +kernel
theorem dX11_findMays_2 : decode cX11_findMays 2 = .ok (.getfield 63, 3) := by decide +kernel
theorem dX11_findMays_5 : decode cX11_findMays 5 = .ok (.ishl, 1) := by decide +kernel
theorem dX11_findMays_6 : decode cX11_findMays 6 = .ok (.istore_n 1, 1) := by decide +kernel
theorem dX11_findMays_7 : decode cX11_findMays 7 = .ok (.iconst 0, 1) := by decide +kernel
theorem dX11_findMays_8 : decode cX11_findMays 8 = .ok (.istore_n 2, 1) := by decide +kernel
theorem dX11_findMays_9 : decode cX11_findMays 9 = .ok (.iload_n 2, 1) := by decide +kernel
theorem dX11_findMays_10 : decode cX11_findMays 10 = .ok (.iload_n 1, 1) := by decide +kernel
theorem dX11_findMays_11 : decode cX11_findMays 11 = .ok (.if_icmp .ge 33, 3) := by decide +kernel
theorem dX11_findMays_14 : decode cX11_findMays 14 = .ok (.aload_n 0, 1) := by decide +kernel
theorem dX11_findMays_15 : decode cX11_findMays 15 = .ok (.getfield 22, 3) := by decide +kernel
theorem dX11_findMays_18 : decode cX11_findMays 18 = .ok (.iload_n 2, 1) := by decide +kernel
theorem dX11_findMays_19 : decode cX11_findMays 19 = .ok (.aload_n 0, 1) := by decide +kernel
theorem dX11_findMays_20 : decode cX11_findMays 20 = .ok (.iload_n 2, 1) := by decide +kernel
theorem dX11_findMays_21 : decode cX11_findMays 21 = .ok (.invokevirtual 130, 3) := by decide +kernel
theorem dX11_findMays_24 : decode cX11_findMays 24 = .ok (.ifCond .eq 11, 3) := by decide +kernel
theorem dX11_findMays_27 : decode cX11_findMays 27 = .ok (.aload_n 0, 1) := by decide +kernel
theorem dX11_findMays_28 : decode cX11_findMays 28 = .ok (.iload_n 2, 1) := by decide +kernel
theorem dX11_findMays_29 : decode cX11_findMays 29 = .ok (.invokevirtual 115, 3) := by decide +kernel
theorem dX11_findMays_32 : decode cX11_findMays 32 = .ok (.goto 5, 3) := by decide +kernel
theorem dX11_findMays_35 : decode cX11_findMays 35 = .ok (.bipush (-6), 2) := by decide +kernel
theorem dX11_findMays_37 : decode cX11_findMays 37 = .ok (.iastore, 1) := by decide +kernel
theorem dX11_findMays_38 : decode cX11_findMays 38 = .ok (.iinc 2 1, 3) := by decide +kernel
theorem dX11_findMays_41 : decode cX11_findMays 41 = .ok (.goto (-32), 3) := by decide +kernel
theorem dX11_findMays_44 : decode cX11_findMays 44 = .ok (.iload_n 1, 1) := by decide +kernel
theorem dX11_findMays_45 : decode cX11_findMays 45 = .ok (.ireturn, 1) := by decide +kernel
theorem dX11_whole_0 : decode cX11_whole 0 = .ok (.iload_n 1, 1) := by decide +kernel
theorem dX11_whole_1 : decode cX11_whole 1 = .ok (.i2l, 1) := by decide +kernel
theorem dX11_whole_2 : decode cX11_whole 2 = .ok (.lconst 0, 1) := by decide +kernel
theorem dX11_whole_3 : decode cX11_whole 3 = .ok (.ldc2_w 139, 3) := by decide +kernel
theorem dX11_whole_6 : decode cX11_whole 6 = .ok (.invokestatic 74, 3) := by decide +kernel
theorem dX11_whole_9 : decode cX11_whole 9 = .ok (.ifCond .ne 6, 3) := by decide +kernel
theorem dX11_whole_12 : decode cX11_whole 12 = .ok (.bipush (-2), 2) := by decide +kernel
theorem dX11_whole_14 : decode cX11_whole 14 = .ok (.ireturn, 1) := by decide +kernel
theorem dX11_whole_15 : decode cX11_whole 15 = .ok (.aload_n 0, 1) := by decide +kernel
theorem dX11_whole_16 : decode cX11_whole 16 = .ok (.invokevirtual 141, 3) := by decide +kernel
theorem dX11_whole_19 : decode cX11_whole 19 = .ok (.istore_n 2, 1) := by decide +kernel
theorem dX11_whole_20 : decode cX11_whole 20 = .ok (.bipush (-6), 2) := by decide +kernel
theorem dX11_whole_22 : decode cX11_whole 22 = .ok (.istore_n 3, 1) := by decide +kernel
theorem dX11_whole_23 : decode cX11_whole 23 = .ok (.bipush (-6), 2) := by decide +kernel
theorem dX11_whole_25 : decode cX11_whole 25 = .ok (.istore 4, 2) := by decide +kernel
theorem dX11_whole_27 : decode cX11_whole 27 = .ok (.iconst 0, 1) := by decide +kernel
theorem dX11_whole_28 : decode cX11_whole 28 = .ok (.istore 5, 2) := by decide +kernel
theorem dX11_whole_30 : decode cX11_whole 30 = .ok (.iload 5, 2) := by decide +kernel
theorem dX11_whole_32 : decode cX11_whole 32 = .ok (.iload_n 2, 1) := by decide +kernel
theorem dX11_whole_33 : decode cX11_whole 33 = .ok (.if_icmp .ge 69, 3) := by decide +kernel
theorem dX11_whole_36 : decode cX11_whole 36 = .ok (.aload_n 0, 1) := by decide +kernel
theorem dX11_whole_37 : decode cX11_whole 37 = .ok (.getfield 22, 3) := by decide +kernel
theorem dX11_whole_40 : decode cX11_whole 40 = .ok (.iload 5, 2) := by decide +kernel
theorem dX11_whole_42 : decode cX11_whole 42 = .ok (.iaload, 1) := by decide +kernel
theorem dX11_whole_43 : decode cX11_whole 43 = .ok (.ifCond .ne 53, 3) := by decide +kernel
theorem dX11_whole_46 : decode cX11_whole 46 = .ok (.iload_n 3, 1) := by decide +kernel
theorem dX11_whole_47 : decode cX11_whole 47 = .ok (.ifCond .lt 15, 3) := by decide +kernel
theorem dX11_whole_50 : decode cX11_whole 50 = .ok (.iload 5, 2) := by decide +kernel
theorem dX11_whole_52 : decode cX11_whole 52 = .ok (.invokestatic 144, 3) := by decide +kernel
theorem dX11_whole_55 : decode cX11_whole 55 = .ok (.iload_n 3, 1) := by decide +kernel
theorem dX11_whole_56 : decode cX11_whole 56 = .ok (.invokestatic 144, 3) := by decide +kernel
theorem dX11_whole_59 : decode cX11_whole 59 = .ok (.if_icmp .ge 8, 3) := by decide +kernel
theorem dX11_whole_62 : decode cX11_whole 62 = .ok (.iload 5, 2) := by decide +kernel
theorem dX11_whole_64 : decode cX11_whole 64 = .ok (.goto 4, 3) := by decide +kernel
theorem dX11_whole_67 : decode cX11_whole 67 = .ok (.iload_n 3, 1) := by decide +kernel
theorem dX11_whole_68 : decode cX11_whole 68 = .ok (.istore_n 3, 1) := by decide +kernel
theorem dX11_whole_69 : decode cX11_whole 69 = .ok (.iload 4, 2) := by decide +kernel
theorem dX11_whole_71 : decode cX11_whole 71 = .ok (.ifCond .lt 16, 3) := by decide +kernel
theorem dX11_whole_74 : decode cX11_whole 74 = .ok (.iload 5, 2) := by decide +kernel
theorem dX11_whole_76 : decode cX11_whole 76 = .ok (.invokestatic 144, 3) := by decide +kernel
theorem dX11_whole_79 : decode cX11_whole 79 = .ok (.iload 4, 2) := by decide +kernel
theorem dX11_whole_81 : decode cX11_whole 81 = .ok (.invokestatic 144, 3) := by decide +kernel
theorem dX11_whole_84 : decode cX11_whole 84 = .ok (.if_icmp .le 8, 3) := by decide +kernel
theorem dX11_whole_87 : decode cX11_whole 87 = .ok (.iload 5, 2) := by decide +kernel
theorem dX11_whole_89 : decode cX11_whole 89 = .ok (.goto 5, 3) := by decide +kernel
theorem dX11_whole_92 : decode cX11_whole 92 = .ok (.iload 4, 2) := by decide +kernel
theorem dX11_whole_94 : decode cX11_whole 94 = .ok (.istore 4, 2) := by decide +kernel
theorem dX11_whole_96 : decode cX11_whole 96 = .ok (.iinc 5 1, 3) := by decide +kernel
theorem dX11_whole_99 : decode cX11_whole 99 = .ok (.goto (-69), 3) := by decide +kernel
theorem dX11_whole_102 : decode cX11_whole 102 = .ok (.iload_n 1, 1) := by decide +kernel
theorem dX11_whole_103 : decode cX11_whole 103 = .ok (.ifCond .ne 7, 3) := by decide +kernel
theorem dX11_whole_106 : decode cX11_whole 106 = .ok (.iload_n 3, 1) := by decide +kernel
theorem dX11_whole_107 : decode cX11_whole 107 = .ok (.goto 30, 3) := by decide +kernel
theorem dX11_whole_110 : decode cX11_whole 110 = .ok (.iload_n 1, 1) := by decide +kernel
theorem dX11_whole_111 : decode cX11_whole 111 = .ok (.iconst 1, 1) := by decide +kernel
theorem dX11_whole_112 : decode cX11_whole 112 = .ok (.if_icmp .ne 8, 3) := by decide +kernel
theorem dX11_whole_115 : decode cX11_whole 115 = .ok (.iload 4, 2) := by decide +kernel
theorem dX11_whole_117 : decode cX11_whole 117 = .ok (.goto 20, 3) := by decide +kernel
theorem dX11_whole_120 : decode cX11_whole 120 = .ok (.iload_n 1, 1) := by decide +kernel
theorem dX11_whole_121 : decode cX11_whole 121 = .ok (.iconst 2, 1) := by decide +kernel
theorem dX11_whole_122 : decode cX11_whole 122 = .ok (.if_icmp .ne 10, 3) := by decide +kernel
theorem dX11_whole_125 : decode cX11_whole 125 = .ok (.iload_n 3, 1) := by decide +kernel
theorem dX11_whole_126 : decode cX11_whole 126 = .ok (.invokestatic 144, 3) := by decide +kernel
theorem dX11_whole_129 : decode cX11_whole 129 = .ok (.goto 8, 3) := by decide +kernel
theorem dX11_whole_132 : decode cX11_whole 132 = .ok (.iload 4, 2) := by decide +kernel
theorem dX11_whole_134 : decode cX11_whole 134 = .ok (.invokestatic 144, 3) := by decide +kernel
theorem dX11_whole_137 : decode cX11_whole 137 = .ok (.ireturn, 1) := by decide +kernel
theorem dX11_ways_0 : decode cX11_ways 0 = .ok (.iload_n 1, 1) := by decide +kernel
theorem dX11_ways_1 : decode cX11_ways 1 = .ok (.i2l, 1) := by decide +kernel
theorem dX11_ways_2 : decode cX11_ways 2 = .ok (.lconst 0, 1) := by decide +kernel
theorem dX11_ways_3 : decode cX11_ways 3 = .ok (.ldc2_w 147, 3) := by decide +kernel
theorem dX11_ways_6 : decode cX11_ways 6 = .ok (.invokestatic 74, 3) := by decide +kernel
theorem dX11_ways_9 : decode cX11_ways 9 = .ok (.ifCond .ne 6, 3) := by decide +kernel
theorem dX11_ways_12 : decode cX11_ways 12 = .ok (.bipush (-2), 2) := by decide +kernel
theorem dX11_ways_14 : decode cX11_ways 14 = .ok (.ireturn, 1) := by decide +kernel
theorem dX11_ways_15 : decode cX11_ways 15 = .ok (.aload_n 0, 1) := by decide +kernel
theorem dX11_ways_16 : decode cX11_ways 16 = .ok (.invokevirtual 141, 3) := by decide +kernel
theorem dX11_ways_19 : decode cX11_ways 19 = .ok (.istore_n 2, 1) := by decide +kernel
theorem dX11_ways_20 : decode cX11_ways 20 = .ok (.iconst 0, 1) := by decide +kernel
theorem dX11_ways_21 : decode cX11_ways 21 = .ok (.istore_n 3, 1) := by decide +kernel
theorem dX11_ways_22 : decode cX11_ways 22 = .ok (.iconst 0, 1) := by decide +kernel
theorem dX11_ways_23 : decode cX11_ways 23 = .ok (.istore 4, 2) := by decide +kernel
theorem dX11_ways_25 : decode cX11_ways 25 = .ok (.iload 4, 2) := by decide +kernel
theorem dX11_ways_27 : decode cX11_ways 27 = .ok (.iload_n 2, 1) := by decide +kernel
theorem dX11_ways_28 : decode cX11_ways 28 = .ok (.if_icmp .ge 36, 3) := by decide +kernel
theorem dX11_ways_31 : decode cX11_ways 31 = .ok (.iload_n 3, 1) := by decide +kernel
theorem dX11_ways_32 : decode cX11_ways 32 = .ok (.aload_n 0, 1) := by decide +kernel
theorem dX11_ways_33 : decode cX11_ways 33 = .ok (.getfield 22, 3) := by decide +kernel
theorem dX11_ways_36 : decode cX11_ways 36 = .ok (.iload 4, 2) := by decide +kernel
theorem dX11_ways_38 : decode cX11_ways 38 = .ok (.iaload, 1) := by decide +kernel
theorem dX11_ways_39 : decode cX11_ways 39 = .ok (.ifCond .ne 16, 3) := by decide +kernel
theorem dX11_ways_42 : decode cX11_ways 42 = .ok (.iload 4, 2) := by decide +kernel
theorem dX11_ways_44 : decode cX11_ways 44 = .ok (.invokestatic 144, 3) := by decide +kernel
theorem dX11_ways_47 : decode cX11_ways 47 = .ok (.iload_n 1, 1) := by decide +kernel
theorem dX11_ways_48 : decode cX11_ways 48 = .ok (.if_icmp .ne 7, 3) := by decide +kernel
theorem dX11_ways_51 : decode cX11_ways 51 = .ok (.iconst 1, 1) := by decide +kernel
theorem dX11_ways_52 : decode cX11_ways 52 = .ok (.goto 4, 3) := by decide +kernel
theorem dX11_ways_55 : decode cX11_ways 55 = .ok (.iconst 0, 1) := by decide +kernel
theorem dX11_ways_56 : decode cX11_ways 56 = .ok (.iadd, 1) := by decide +kernel
theorem dX11_ways_57 : decode cX11_ways 57 = .ok (.istore_n 3, 1) := by decide +kernel
theorem dX11_ways_58 : decode cX11_ways 58 = .ok (.iinc 4 1, 3) := by decide +kernel
theorem dX11_ways_61 : decode cX11_ways 61 = .ok (.goto (-36), 3) := by decide +kernel
theorem dX11_ways_64 : decode cX11_ways 64 = .ok (.iload_n 3, 1) := by decide +kernel
theorem dX11_ways_65 : decode cX11_ways 65 = .ok (.ireturn, 1) := by decide +kernel
theorem dX11_findAny_0 : decode cX11_findAny 0 = .ok (.aload_n 0, 1) := by decide +kernel
theorem dX11_findAny_1 : decode cX11_findAny 1 = .ok (.invokevirtual 141, 3) := by decide +kernel
theorem dX11_findAny_4 : decode cX11_findAny 4 = .ok (.istore_n 1, 1) := by decide +kernel
theorem dX11_findAny_5 : decode cX11_findAny 5 = .ok (.aload_n 0, 1) := by decide +kernel
theorem dX11_findAny_6 : decode cX11_findAny 6 = .ok (.lconst 1, 1) := by decide +kernel
theorem dX11_findAny_7 : decode cX11_findAny 7 = .ok (.putfield 149, 3) := by decide +kernel
theorem dX11_findAny_10 : decode cX11_findAny 10 = .ok (.iconst 2, 1) := by decide +kernel
theorem dX11_findAny_11 : decode cX11_findAny 11 = .ok (.istore_n 2, 1) := by decide +kernel
theorem dX11_findAny_12 : decode cX11_findAny 12 = .ok (.iload_n 2, 1) := by decide +kernel
theorem dX11_findAny_13 : decode cX11_findAny 13 = .ok (.aload_n 0, 1) := by decide +kernel
theorem dX11_findAny_14 : decode cX11_findAny 14 = .ok (.getfield 63, 3) := by decide +kernel
theorem dX11_findAny_17 : decode cX11_findAny 17 = .ok (.if_icmp .gt 20, 3) := by decide +kernel
theorem dX11_findAny_20 : decode cX11_findAny 20 = .ok (.aload_n 0, 1) := by decide +kernel
theorem dX11_findAny_21 : decode cX11_findAny 21 = .ok (.dup, 1) := by decide +kernel
theorem dX11_findAny_22 : decode cX11_findAny 22 = .ok (.getfield 149, 3) := by decide +kernel
theorem dX11_findAny_25 : decode cX11_findAny 25 = .ok (.iload_n 2, 1) := by decide +kernel
theorem dX11_findAny_26 : decode cX11_findAny 26 = .ok (.i2l, 1) := by decide +kernel
theorem dX11_findAny_27 : decode cX11_findAny 27 = .ok (.lmul, 1) := by decide +kernel
theorem dX11_findAny_28 : decode cX11_findAny 28 = .ok (.putfield 149, 3) := by decide +kernel
theorem dX11_findAny_31 : decode cX11_findAny 31 = .ok (.iinc 2 1, 3) := by decide +kernel
theorem dX11_findAny_34 : decode cX11_findAny 34 = .ok (.goto (-22), 3) := by decide +kernel
theorem dX11_findAny_37 : decode cX11_findAny 37 = .ok (.iconst 0, 1) := by decide +kernel
theorem dX11_findAny_38 : decode cX11_findAny 38 = .ok (.istore_n 2, 1) := by decide +kernel
theorem dX11_findAny_39 : decode cX11_findAny 39 = .ok (.iload_n 2, 1) := by decide +kernel
theorem dX11_findAny_40 : decode cX11_findAny 40 = .ok (.bipush 12, 2) := by decide +kernel
theorem dX11_findAny_42 : decode cX11_findAny 42 = .ok (.if_icmp .gt 16, 3) := by decide +kernel
theorem dX11_findAny_45 : decode cX11_findAny 45 = .ok (.aload_n 0, 1) := by decide +kernel
theorem dX11_findAny_46 : decode cX11_findAny 46 = .ok (.getfield 29, 3) := by decide +kernel
theorem dX11_findAny_49 : decode cX11_findAny 49 = .ok (.iload_n 2, 1) := by decide +kernel
theorem dX11_findAny_50 : decode cX11_findAny 50 = .ok (.lconst 0, 1) := by decide +kernel
theorem dX11_findAny_51 : decode cX11_findAny 51 = .ok (.lastore, 1) := by decide +kernel
theorem dX11_findAny_52 : decode cX11_findAny 52 = .ok (.iinc 2 1, 3) := by decide +kernel
theorem dX11_findAny_55 : decode cX11_findAny 55 = .ok (.goto (-16), 3) := by decide +kernel
theorem dX11_findAny_58 : decode cX11_findAny 58 = .ok (.iconst 0, 1) := by decide +kernel
theorem dX11_findAny_59 : decode cX11_findAny 59 = .ok (.istore_n 2, 1) := by decide +kernel
theorem dX11_findAny_60 : decode cX11_findAny 60 = .ok (.iload_n 2, 1) := by decide +kernel
theorem dX11_findAny_61 : decode cX11_findAny 61 = .ok (.iload_n 1, 1) := by decide +kernel
theorem dX11_findAny_62 : decode cX11_findAny 62 = .ok (.if_icmp .ge 27, 3) := by decide +kernel
theorem dX11_findAny_65 : decode cX11_findAny 65 = .ok (.aload_n 0, 1) := by decide +kernel
theorem dX11_findAny_66 : decode cX11_findAny 66 = .ok (.getfield 25, 3) := by decide +kernel
theorem dX11_findAny_69 : decode cX11_findAny 69 = .ok (.iload_n 2, 1) := by decide +kernel
theorem dX11_findAny_70 : decode cX11_findAny 70 = .ok (.iload_n 2, 1) := by decide +kernel
theorem dX11_findAny_71 : decode cX11_findAny 71 = .ok (.ifCond .ne 10, 3) := by decide +kernel
theorem dX11_findAny_74 : decode cX11_findAny 74 = .ok (.aload_n 0, 1) := by decide +kernel
theorem dX11_findAny_75 : decode cX11_findAny 75 = .ok (.getfield 149, 3) := by decide +kernel
theorem dX11_findAny_78 : decode cX11_findAny 78 = .ok (.goto 4, 3) := by decide +kernel
theorem dX11_findAny_81 : decode cX11_findAny 81 = .ok (.lconst 0, 1) := by decide +kernel
theorem dX11_findAny_82 : decode cX11_findAny 82 = .ok (.lastore, 1) := by decide +kernel
theorem dX11_findAny_83 : decode cX11_findAny 83 = .ok (.iinc 2 1, 3) := by decide +kernel
theorem dX11_findAny_86 : decode cX11_findAny 86 = .ok (.goto (-26), 3) := by decide +kernel
theorem dX11_findAny_89 : decode cX11_findAny 89 = .ok (.iconst 0, 1) := by decide +kernel
theorem dX11_findAny_90 : decode cX11_findAny 90 = .ok (.istore_n 2, 1) := by decide +kernel
theorem dX11_findAny_91 : decode cX11_findAny 91 = .ok (.iload_n 2, 1) := by decide +kernel
theorem dX11_findAny_92 : decode cX11_findAny 92 = .ok (.iload_n 1, 1) := by decide +kernel
theorem dX11_findAny_93 : decode cX11_findAny 93 = .ok (.if_icmp .ge 118, 3) := by decide +kernel
theorem dX11_findAny_96 : decode cX11_findAny 96 = .ok (.aload_n 0, 1) := by decide +kernel
theorem dX11_findAny_97 : decode cX11_findAny 97 = .ok (.getfield 22, 3) := by decide +kernel
theorem dX11_findAny_100 : decode cX11_findAny 100 = .ok (.iload_n 2, 1) := by decide +kernel
theorem dX11_findAny_101 : decode cX11_findAny 101 = .ok (.iaload, 1) := by decide +kernel
theorem dX11_findAny_102 : decode cX11_findAny 102 = .ok (.ifCond .ne 24, 3) := by decide +kernel
theorem dX11_findAny_105 : decode cX11_findAny 105 = .ok (.aload_n 0, 1) := by decide +kernel
theorem dX11_findAny_106 : decode cX11_findAny 106 = .ok (.getfield 29, 3) := by decide +kernel
theorem dX11_findAny_109 : decode cX11_findAny 109 = .ok (.iload_n 2, 1) := by decide +kernel
theorem dX11_findAny_110 : decode cX11_findAny 110 = .ok (.invokestatic 144, 3) := by decide +kernel
theorem dX11_findAny_113 : decode cX11_findAny 113 = .ok (.dup2, 1) := by decide +kernel
theorem dX11_findAny_114 : decode cX11_findAny 114 = .ok (.laload, 1) := by decide +kernel
theorem dX11_findAny_115 : decode cX11_findAny 115 = .ok (.aload_n 0, 1) := by decide +kernel
theorem dX11_findAny_116 : decode cX11_findAny 116 = .ok (.getfield 25, 3) := by decide +kernel
theorem dX11_findAny_119 : decode cX11_findAny 119 = .ok (.iload_n 2, 1) := by decide +kernel
theorem dX11_findAny_120 : decode cX11_findAny 120 = .ok (.laload, 1) := by decide +kernel
theorem dX11_findAny_121 : decode cX11_findAny 121 = .ok (.ladd, 1) := by decide +kernel
theorem dX11_findAny_122 : decode cX11_findAny 122 = .ok (.lastore, 1) := by decide +kernel
theorem dX11_findAny_123 : decode cX11_findAny 123 = .ok (.goto 82, 3) := by decide +kernel
theorem dX11_findAny_126 : decode cX11_findAny 126 = .ok (.aload_n 0, 1) := by decide +kernel
theorem dX11_findAny_127 : decode cX11_findAny 127 = .ok (.getfield 22, 3) := by decide +kernel
theorem dX11_findAny_130 : decode cX11_findAny 130 = .ok (.iload_n 2, 1) := by decide +kernel
theorem dX11_findAny_131 : decode cX11_findAny 131 = .ok (.iaload, 1) := by decide +kernel
theorem dX11_findAny_132 : decode cX11_findAny 132 = .ok (.ifCond .le 73, 3) := by decide +kernel
theorem dX11_findAny_135 : decode cX11_findAny 135 = .ok (.aload_n 0, 1) := by decide +kernel
theorem dX11_findAny_136 : decode cX11_findAny 136 = .ok (.getfield 25, 3) := by decide +kernel
theorem dX11_findAny_139 : decode cX11_findAny 139 = .ok (.iload_n 2, 1) := by decide +kernel
theorem dX11_findAny_140 : decode cX11_findAny 140 = .ok (.laload, 1) := by decide +kernel
theorem dX11_findAny_141 : decode cX11_findAny 141 = .ok (.aload_n 0, 1) := by decide +kernel
theorem dX11_findAny_142 : decode cX11_findAny 142 = .ok (.getfield 22, 3) := by decide +kernel
theorem dX11_findAny_145 : decode cX11_findAny 145 = .ok (.iload_n 2, 1) := by decide +kernel
theorem dX11_findAny_146 : decode cX11_findAny 146 = .ok (.iaload, 1) := by decide +kernel
theorem dX11_findAny_147 : decode cX11_findAny 147 = .ok (.invokestatic 144, 3) := by decide +kernel
theorem dX11_findAny_150 : decode cX11_findAny 150 = .ok (.i2l, 1) := by decide +kernel
theorem dX11_findAny_151 : decode cX11_findAny 151 = .ok (.ldiv, 1) := by decide +kernel
theorem dX11_findAny_152 : decode cX11_findAny 152 = .ok (.lstore_n 3, 1) := by decide +kernel
theorem dX11_findAny_153 : decode cX11_findAny 153 = .ok (.iconst 0, 1) := by decide +kernel
theorem dX11_findAny_154 : decode cX11_findAny 154 = .ok (.istore 5, 2) := by decide +kernel
theorem dX11_findAny_156 : decode cX11_findAny 156 = .ok (.iload 5, 2) := by decide +kernel
theorem dX11_findAny_158 : decode cX11_findAny 158 = .ok (.aload_n 0, 1) := by decide +kernel
theorem dX11_findAny_159 : decode cX11_findAny 159 = .ok (.getfield 63, 3) := by decide +kernel
theorem dX11_findAny_162 : decode cX11_findAny 162 = .ok (.if_icmp .ge 43, 3) := by decide +kernel
theorem dX11_findAny_165 : decode cX11_findAny 165 = .ok (.aload_n 0, 1) := by decide +kernel
theorem dX11_findAny_166 : decode cX11_findAny 166 = .ok (.getfield 25, 3) := by decide +kernel
theorem dX11_findAny_169 : decode cX11_findAny 169 = .ok (.iload_n 2, 1) := by decide +kernel
theorem dX11_findAny_170 : decode cX11_findAny 170 = .ok (.iconst 1, 1) := by decide +kernel
theorem dX11_findAny_171 : decode cX11_findAny 171 = .ok (.iload 5, 2) := by decide +kernel
theorem dX11_findAny_173 : decode cX11_findAny 173 = .ok (.ishl, 1) := by decide +kernel
theorem dX11_findAny_174 : decode cX11_findAny 174 = .ok (.ior, 1) := by decide +kernel
theorem dX11_findAny_175 : decode cX11_findAny 175 = .ok (.dup2, 1) := by decide +kernel
theorem dX11_findAny_176 : decode cX11_findAny 176 = .ok (.laload, 1) := by decide +kernel
theorem dX11_findAny_177 : decode cX11_findAny 177 = .ok (.aload_n 0, 1) := by decide +kernel
theorem dX11_findAny_178 : decode cX11_findAny 178 = .ok (.getfield 22, 3) := by decide +kernel
theorem dX11_findAny_181 : decode cX11_findAny 181 = .ok (.iload_n 2, 1) := by decide +kernel
theorem dX11_findAny_182 : decode cX11_findAny 182 = .ok (.iaload, 1) := by decide +kernel
theorem dX11_findAny_183 : decode cX11_findAny 183 = .ok (.iload 5, 2) := by decide +kernel
theorem dX11_findAny_185 : decode cX11_findAny 185 = .ok (.ishr, 1) := by decide +kernel
theorem dX11_findAny_186 : decode cX11_findAny 186 = .ok (.iconst 1, 1) := by decide +kernel
theorem dX11_findAny_187 : decode cX11_findAny 187 = .ok (.iand, 1) := by decide +kernel
theorem dX11_findAny_188 : decode cX11_findAny 188 = .ok (.iconst 1, 1) := by decide +kernel
theorem dX11_findAny_189 : decode cX11_findAny 189 = .ok (.if_icmp .ne 7, 3) := by decide +kernel
theorem dX11_findAny_192 : decode cX11_findAny 192 = .ok (.lload_n 3, 1) := by decide +kernel
theorem dX11_findAny_193 : decode cX11_findAny 193 = .ok (.goto 4, 3) := by decide +kernel
theorem dX11_findAny_196 : decode cX11_findAny 196 = .ok (.lconst 0, 1) := by decide +kernel
theorem dX11_findAny_197 : decode cX11_findAny 197 = .ok (.ladd, 1) := by decide +kernel
theorem dX11_findAny_198 : decode cX11_findAny 198 = .ok (.lastore, 1) := by decide +kernel
theorem dX11_findAny_199 : decode cX11_findAny 199 = .ok (.iinc 5 1, 3) := by decide +kernel
theorem dX11_findAny_202 : decode cX11_findAny 202 = .ok (.goto (-46), 3) := by decide +kernel
theorem dX11_findAny_205 : decode cX11_findAny 205 = .ok (.iinc 2 1, 3) := by decide +kernel
theorem dX11_findAny_208 : decode cX11_findAny 208 = .ok (.goto (-117), 3) := by decide +kernel
theorem dX11_findAny_211 : decode cX11_findAny 211 = .ok (.return_, 1) := by decide +kernel
theorem dX11_meanUpper_0 : decode cX11_meanUpper 0 = .ok (.lconst 0, 1) := by decide +kernel
theorem dX11_meanUpper_1 : decode cX11_meanUpper 1 = .ok (.lstore_n 1, 1) := by decide +kernel
theorem dX11_meanUpper_2 : decode cX11_meanUpper 2 = .ok (.iconst 0, 1) := by decide +kernel
theorem dX11_meanUpper_3 : decode cX11_meanUpper 3 = .ok (.istore_n 3, 1) := by decide +kernel
theorem dX11_meanUpper_4 : decode cX11_meanUpper 4 = .ok (.iload_n 3, 1) := by decide +kernel
theorem dX11_meanUpper_5 : decode cX11_meanUpper 5 = .ok (.bipush 12, 2) := by decide +kernel
theorem dX11_meanUpper_7 : decode cX11_meanUpper 7 = .ok (.if_icmp .gt 21, 3) := by decide +kernel
theorem dX11_meanUpper_10 : decode cX11_meanUpper 10 = .ok (.lload_n 1, 1) := by decide +kernel
theorem dX11_meanUpper_11 : decode cX11_meanUpper 11 = .ok (.iload_n 3, 1) := by decide +kernel
theorem dX11_meanUpper_12 : decode cX11_meanUpper 12 = .ok (.i2l, 1) := by decide +kernel
theorem dX11_meanUpper_13 : decode cX11_meanUpper 13 = .ok (.aload_n 0, 1) := by decide +kernel
theorem dX11_meanUpper_14 : decode cX11_meanUpper 14 = .ok (.getfield 29, 3) := by decide +kernel
theorem dX11_meanUpper_17 : decode cX11_meanUpper 17 = .ok (.iload_n 3, 1) := by decide +kernel
theorem dX11_meanUpper_18 : decode cX11_meanUpper 18 = .ok (.laload, 1) := by decide +kernel
theorem dX11_meanUpper_19 : decode cX11_meanUpper 19 = .ok (.lmul, 1) := by decide +kernel
theorem dX11_meanUpper_20 : decode cX11_meanUpper 20 = .ok (.ladd, 1) := by decide +kernel
theorem dX11_meanUpper_21 : decode cX11_meanUpper 21 = .ok (.lstore_n 1, 1) := by decide +kernel
theorem dX11_meanUpper_22 : decode cX11_meanUpper 22 = .ok (.iinc 3 1, 3) := by decide +kernel
theorem dX11_meanUpper_25 : decode cX11_meanUpper 25 = .ok (.goto (-21), 3) := by decide +kernel
theorem dX11_meanUpper_28 : decode cX11_meanUpper 28 = .ok (.lload_n 1, 1) := by decide +kernel
theorem dX11_meanUpper_29 : decode cX11_meanUpper 29 = .ok (.lreturn, 1) := by decide +kernel
theorem dX11_mean_0 : decode cX11_mean 0 = .ok (.iload_n 1, 1) := by decide +kernel
theorem dX11_mean_1 : decode cX11_mean 1 = .ok (.invokestatic 153, 3) := by decide +kernel
theorem dX11_mean_4 : decode cX11_mean 4 = .ok (.ifCond .ne 7, 3) := by decide +kernel
theorem dX11_mean_7 : decode cX11_mean 7 = .ok (.ldc2_w 156, 3) := by decide +kernel
theorem dX11_mean_10 : decode cX11_mean 10 = .ok (.lreturn, 1) := by decide +kernel
theorem dX11_mean_11 : decode cX11_mean 11 = .ok (.aload_n 0, 1) := by decide +kernel
theorem dX11_mean_12 : decode cX11_mean 12 = .ok (.invokevirtual 158, 3) := by decide +kernel
theorem dX11_mean_15 : decode cX11_mean 15 = .ok (.aload_n 0, 1) := by decide +kernel
theorem dX11_mean_16 : decode cX11_mean 16 = .ok (.invokevirtual 161, 3) := by decide +kernel
theorem dX11_mean_19 : decode cX11_mean 19 = .ok (.aload_n 0, 1) := by decide +kernel
theorem dX11_mean_20 : decode cX11_mean 20 = .ok (.getfield 149, 3) := by decide +kernel
theorem dX11_mean_23 : decode cX11_mean 23 = .ok (.iload_n 1, 1) := by decide +kernel
theorem dX11_mean_24 : decode cX11_mean 24 = .ok (.invokestatic 165, 3) := by decide +kernel
theorem dX11_mean_27 : decode cX11_mean 27 = .ok (.lreturn, 1) := by decide +kernel
theorem dX11_odds_0 : decode cX11_odds 0 = .ok (.iload_n 1, 1) := by decide +kernel
theorem dX11_odds_1 : decode cX11_odds 1 = .ok (.i2l, 1) := by decide +kernel
theorem dX11_odds_2 : decode cX11_odds 2 = .ok (.lconst 0, 1) := by decide +kernel
theorem dX11_odds_3 : decode cX11_odds 3 = .ok (.ldc2_w 147, 3) := by decide +kernel
theorem dX11_odds_6 : decode cX11_odds 6 = .ok (.invokestatic 74, 3) := by decide +kernel
theorem dX11_odds_9 : decode cX11_odds 9 = .ok (.ifCond .eq 10, 3) := by decide +kernel
theorem dX11_odds_12 : decode cX11_odds 12 = .ok (.iload_n 2, 1) := by decide +kernel
theorem dX11_odds_13 : decode cX11_odds 13 = .ok (.invokestatic 153, 3) := by decide +kernel
theorem dX11_odds_16 : decode cX11_odds 16 = .ok (.ifCond .ne 7, 3) := by decide +kernel
theorem dX11_odds_19 : decode cX11_odds 19 = .ok (.ldc2_w 156, 3) := by decide +kernel
theorem dX11_odds_22 : decode cX11_odds 22 = .ok (.lreturn, 1) := by decide +kernel
theorem dX11_odds_23 : decode cX11_odds 23 = .ok (.aload_n 0, 1) := by decide +kernel
theorem dX11_odds_24 : decode cX11_odds 24 = .ok (.invokevirtual 158, 3) := by decide +kernel
theorem dX11_odds_27 : decode cX11_odds 27 = .ok (.aload_n 0, 1) := by decide +kernel
theorem dX11_odds_28 : decode cX11_odds 28 = .ok (.getfield 29, 3) := by decide +kernel
theorem dX11_odds_31 : decode cX11_odds 31 = .ok (.iload_n 1, 1) := by decide +kernel
theorem dX11_odds_32 : decode cX11_odds 32 = .ok (.laload, 1) := by decide +kernel
theorem dX11_odds_33 : decode cX11_odds 33 = .ok (.aload_n 0, 1) := by decide +kernel
theorem dX11_odds_34 : decode cX11_odds 34 = .ok (.getfield 149, 3) := by decide +kernel
theorem dX11_odds_37 : decode cX11_odds 37 = .ok (.iload_n 2, 1) := by decide +kernel
theorem dX11_odds_38 : decode cX11_odds 38 = .ok (.invokestatic 165, 3) := by decide +kernel
theorem dX11_odds_41 : decode cX11_odds 41 = .ok (.lreturn, 1) := by decide +kernel
theorem dX11_first_0 : decode cX11_first 0 = .ok (.iload_n 1, 1) := by decide +kernel
theorem dX11_first_1 : decode cX11_first 1 = .ok (.invokestatic 133, 3) := by decide +kernel
theorem dX11_first_4 : decode cX11_first 4 = .ok (.ifCond .eq 15, 3) := by decide +kernel
theorem dX11_first_7 : decode cX11_first 7 = .ok (.iload_n 2, 1) := by decide +kernel
theorem dX11_first_8 : decode cX11_first 8 = .ok (.i2l, 1) := by decide +kernel
theorem dX11_first_9 : decode cX11_first 9 = .ok (.lconst 0, 1) := by decide +kernel
theorem dX11_first_10 : decode cX11_first 10 = .ok (.ldc2_w 139, 3) := by decide +kernel
theorem dX11_first_13 : decode cX11_first 13 = .ok (.invokestatic 74, 3) := by decide +kernel
theorem dX11_first_16 : decode cX11_first 16 = .ok (.ifCond .ne 6, 3) := by decide +kernel
theorem dX11_first_19 : decode cX11_first 19 = .ok (.bipush (-2), 2) := by decide +kernel
theorem dX11_first_21 : decode cX11_first 21 = .ok (.ireturn, 1) := by decide +kernel
theorem dX11_first_22 : decode cX11_first 22 = .ok (.bipush (-6), 2) := by decide +kernel
theorem dX11_first_24 : decode cX11_first 24 = .ok (.istore_n 3, 1) := by decide +kernel
theorem dX11_first_25 : decode cX11_first 25 = .ok (.bipush (-6), 2) := by decide +kernel
theorem dX11_first_27 : decode cX11_first 27 = .ok (.istore 4, 2) := by decide +kernel
theorem dX11_first_29 : decode cX11_first 29 = .ok (.iconst 0, 1) := by decide +kernel
theorem dX11_first_30 : decode cX11_first 30 = .ok (.istore 5, 2) := by decide +kernel
theorem dX11_first_32 : decode cX11_first 32 = .ok (.iconst 0, 1) := by decide +kernel
theorem dX11_first_33 : decode cX11_first 33 = .ok (.istore 6, 2) := by decide +kernel
theorem dX11_first_35 : decode cX11_first 35 = .ok (.iconst 0, 1) := by decide +kernel
theorem dX11_first_36 : decode cX11_first 36 = .ok (.istore 7, 2) := by decide +kernel
theorem dX11_first_38 : decode cX11_first 38 = .ok (.iload 7, 2) := by decide +kernel
theorem dX11_first_40 : decode cX11_first 40 = .ok (.aload_n 0, 1) := by decide +kernel
theorem dX11_first_41 : decode cX11_first 41 = .ok (.getfield 63, 3) := by decide +kernel
theorem dX11_first_44 : decode cX11_first 44 = .ok (.if_icmp .ge 61, 3) := by decide +kernel
theorem dX11_first_47 : decode cX11_first 47 = .ok (.aload_n 0, 1) := by decide +kernel
theorem dX11_first_48 : decode cX11_first 48 = .ok (.iconst 1, 1) := by decide +kernel
theorem dX11_first_49 : decode cX11_first 49 = .ok (.iload 7, 2) := by decide +kernel
theorem dX11_first_51 : decode cX11_first 51 = .ok (.ishl, 1) := by decide +kernel
theorem dX11_first_52 : decode cX11_first 52 = .ok (.iload_n 1, 1) := by decide +kernel
theorem dX11_first_53 : decode cX11_first 53 = .ok (.invokevirtual 136, 3) := by decide +kernel
theorem dX11_first_56 : decode cX11_first 56 = .ok (.invokestatic 144, 3) := by decide +kernel
theorem dX11_first_59 : decode cX11_first 59 = .ok (.istore 8, 2) := by decide +kernel
theorem dX11_first_61 : decode cX11_first 61 = .ok (.iload_n 3, 1) := by decide +kernel
theorem dX11_first_62 : decode cX11_first 62 = .ok (.ifCond .lt 10, 3) := by decide +kernel
theorem dX11_first_65 : decode cX11_first 65 = .ok (.iload 8, 2) := by decide +kernel
theorem dX11_first_67 : decode cX11_first 67 = .ok (.iload 5, 2) := by decide +kernel
theorem dX11_first_69 : decode cX11_first 69 = .ok (.if_icmp .le 10, 3) := by decide +kernel
theorem dX11_first_72 : decode cX11_first 72 = .ok (.iload 7, 2) := by decide +kernel
theorem dX11_first_74 : decode cX11_first 74 = .ok (.istore_n 3, 1) := by decide +kernel
theorem dX11_first_75 : decode cX11_first 75 = .ok (.iload 8, 2) := by decide +kernel
theorem dX11_first_77 : decode cX11_first 77 = .ok (.istore 5, 2) := by decide +kernel
theorem dX11_first_79 : decode cX11_first 79 = .ok (.iload 4, 2) := by decide +kernel
theorem dX11_first_81 : decode cX11_first 81 = .ok (.ifCond .lt 10, 3) := by decide +kernel
theorem dX11_first_84 : decode cX11_first 84 = .ok (.iload 8, 2) := by decide +kernel
theorem dX11_first_86 : decode cX11_first 86 = .ok (.iload 6, 2) := by decide +kernel
theorem dX11_first_88 : decode cX11_first 88 = .ok (.if_icmp .ge 11, 3) := by decide +kernel
theorem dX11_first_91 : decode cX11_first 91 = .ok (.iload 7, 2) := by decide +kernel
theorem dX11_first_93 : decode cX11_first 93 = .ok (.istore 4, 2) := by decide +kernel
theorem dX11_first_95 : decode cX11_first 95 = .ok (.iload 8, 2) := by decide +kernel
theorem dX11_first_97 : decode cX11_first 97 = .ok (.istore 6, 2) := by decide +kernel
theorem dX11_first_99 : decode cX11_first 99 = .ok (.iinc 7 1, 3) := by decide +kernel
theorem dX11_first_102 : decode cX11_first 102 = .ok (.goto (-64), 3) := by decide +kernel
theorem dX11_first_105 : decode cX11_first 105 = .ok (.iload_n 2, 1) := by decide +kernel
theorem dX11_first_106 : decode cX11_first 106 = .ok (.ifCond .ne 7, 3) := by decide +kernel
theorem dX11_first_109 : decode cX11_first 109 = .ok (.iload_n 3, 1) := by decide +kernel
theorem dX11_first_110 : decode cX11_first 110 = .ok (.goto 25, 3) := by decide +kernel
theorem dX11_first_113 : decode cX11_first 113 = .ok (.iload_n 2, 1) := by decide +kernel
theorem dX11_first_114 : decode cX11_first 114 = .ok (.iconst 1, 1) := by decide +kernel
theorem dX11_first_115 : decode cX11_first 115 = .ok (.if_icmp .ne 8, 3) := by decide +kernel
theorem dX11_first_118 : decode cX11_first 118 = .ok (.iload 4, 2) := by decide +kernel
theorem dX11_first_120 : decode cX11_first 120 = .ok (.goto 15, 3) := by decide +kernel
theorem dX11_first_123 : decode cX11_first 123 = .ok (.iload_n 2, 1) := by decide +kernel
theorem dX11_first_124 : decode cX11_first 124 = .ok (.iconst 2, 1) := by decide +kernel
theorem dX11_first_125 : decode cX11_first 125 = .ok (.if_icmp .ne 8, 3) := by decide +kernel
theorem dX11_first_128 : decode cX11_first 128 = .ok (.iload 5, 2) := by decide +kernel
theorem dX11_first_130 : decode cX11_first 130 = .ok (.goto 5, 3) := by decide +kernel
theorem dX11_first_133 : decode cX11_first 133 = .ok (.iload 6, 2) := by decide +kernel
theorem dX11_first_135 : decode cX11_first 135 = .ok (.ireturn, 1) := by decide +kernel
theorem dX11_findEnds_0 : decode cX11_findEnds 0 = .ok (.aload_n 0, 1) := by decide +kernel
theorem dX11_findEnds_1 : decode cX11_findEnds 1 = .ok (.invokevirtual 141, 3) := by decide +kernel
theorem dX11_findEnds_4 : decode cX11_findEnds 4 = .ok (.istore_n 1, 1) := by decide +kernel
theorem dX11_findEnds_5 : decode cX11_findEnds 5 = .ok (.iload_n 1, 1) := by decide +kernel
theorem dX11_findEnds_6 : decode cX11_findEnds 6 = .ok (.iconst 1, 1) := by decide +kernel
theorem dX11_findEnds_7 : decode cX11_findEnds 7 = .ok (.isub, 1) := by decide +kernel
theorem dX11_findEnds_8 : decode cX11_findEnds 8 = .ok (.istore_n 2, 1) := by decide +kernel
theorem dX11_findEnds_9 : decode cX11_findEnds 9 = .ok (.iload_n 2, 1) := by decide +kernel
theorem dX11_findEnds_10 : decode cX11_findEnds 10 = .ok (.ifCond .lt 154, 3) := by decide +kernel
theorem dX11_findEnds_13 : decode cX11_findEnds 13 = .ok (.iconst 0, 1) := by decide +kernel
theorem dX11_findEnds_14 : decode cX11_findEnds 14 = .ok (.istore_n 3, 1) := by decide +kernel
theorem dX11_findEnds_15 : decode cX11_findEnds 15 = .ok (.iload_n 3, 1) := by decide +kernel
theorem dX11_findEnds_16 : decode cX11_findEnds 16 = .ok (.iconst 2, 1) := by decide +kernel
theorem dX11_findEnds_17 : decode cX11_findEnds 17 = .ok (.if_icmp .ge 141, 3) := by decide +kernel
theorem dX11_findEnds_20 : decode cX11_findEnds 20 = .ok (.bipush (-6), 2) := by decide +kernel
theorem dX11_findEnds_22 : decode cX11_findEnds 22 = .ok (.istore 4, 2) := by decide +kernel
theorem dX11_findEnds_24 : decode cX11_findEnds 24 = .ok (.iconst 0, 1) := by decide +kernel
theorem dX11_findEnds_25 : decode cX11_findEnds 25 = .ok (.istore 5, 2) := by decide +kernel
theorem dX11_findEnds_27 : decode cX11_findEnds 27 = .ok (.iload 5, 2) := by decide +kernel
theorem dX11_findEnds_29 : decode cX11_findEnds 29 = .ok (.aload_n 0, 1) := by decide +kernel
theorem dX11_findEnds_30 : decode cX11_findEnds 30 = .ok (.getfield 63, 3) := by decide +kernel
theorem dX11_findEnds_33 : decode cX11_findEnds 33 = .ok (.if_icmp .ge 89, 3) := by decide +kernel
theorem dX11_findEnds_36 : decode cX11_findEnds 36 = .ok (.aload_n 0, 1) := by decide +kernel
theorem dX11_findEnds_37 : decode cX11_findEnds 37 = .ok (.getfield 22, 3) := by decide +kernel
theorem dX11_findEnds_40 : decode cX11_findEnds 40 = .ok (.iload_n 2, 1) := by decide +kernel
theorem dX11_findEnds_41 : decode cX11_findEnds 41 = .ok (.iaload, 1) := by decide +kernel
theorem dX11_findEnds_42 : decode cX11_findEnds 42 = .ok (.ifCond .le 80, 3) := by decide +kernel
theorem dX11_findEnds_45 : decode cX11_findEnds 45 = .ok (.aload_n 0, 1) := by decide +kernel
theorem dX11_findEnds_46 : decode cX11_findEnds 46 = .ok (.getfield 22, 3) := by decide +kernel
theorem dX11_findEnds_49 : decode cX11_findEnds 49 = .ok (.iload_n 2, 1) := by decide +kernel
theorem dX11_findEnds_50 : decode cX11_findEnds 50 = .ok (.iaload, 1) := by decide +kernel
theorem dX11_findEnds_51 : decode cX11_findEnds 51 = .ok (.iload 5, 2) := by decide +kernel
theorem dX11_findEnds_53 : decode cX11_findEnds 53 = .ok (.ishr, 1) := by decide +kernel
theorem dX11_findEnds_54 : decode cX11_findEnds 54 = .ok (.iconst 1, 1) := by decide +kernel
theorem dX11_findEnds_55 : decode cX11_findEnds 55 = .ok (.iand, 1) := by decide +kernel
theorem dX11_findEnds_56 : decode cX11_findEnds 56 = .ok (.iconst 1, 1) := by decide +kernel
theorem dX11_findEnds_57 : decode cX11_findEnds 57 = .ok (.if_icmp .ne 59, 3) := by decide +kernel
theorem dX11_findEnds_60 : decode cX11_findEnds 60 = .ok (.aload_n 0, 1) := by decide +kernel
theorem dX11_findEnds_61 : decode cX11_findEnds 61 = .ok (.getfield 32, 3) := by decide +kernel
theorem dX11_findEnds_64 : decode cX11_findEnds 64 = .ok (.sipush 4096, 3) := by decide +kernel
theorem dX11_findEnds_67 : decode cX11_findEnds 67 = .ok (.iconst 1, 1) := by decide +kernel
theorem dX11_findEnds_68 : decode cX11_findEnds 68 = .ok (.iload_n 3, 1) := by decide +kernel
theorem dX11_findEnds_69 : decode cX11_findEnds 69 = .ok (.isub, 1) := by decide +kernel
theorem dX11_findEnds_70 : decode cX11_findEnds 70 = .ok (.imul, 1) := by decide +kernel
theorem dX11_findEnds_71 : decode cX11_findEnds 71 = .ok (.iload_n 2, 1) := by decide +kernel
theorem dX11_findEnds_72 : decode cX11_findEnds 72 = .ok (.iconst 1, 1) := by decide +kernel
theorem dX11_findEnds_73 : decode cX11_findEnds 73 = .ok (.iload 5, 2) := by decide +kernel
theorem dX11_findEnds_75 : decode cX11_findEnds 75 = .ok (.ishl, 1) := by decide +kernel
theorem dX11_findEnds_76 : decode cX11_findEnds 76 = .ok (.ior, 1) := by decide +kernel
theorem dX11_findEnds_77 : decode cX11_findEnds 77 = .ok (.iadd, 1) := by decide +kernel
theorem dX11_findEnds_78 : decode cX11_findEnds 78 = .ok (.iaload, 1) := by decide +kernel
theorem dX11_findEnds_79 : decode cX11_findEnds 79 = .ok (.istore 6, 2) := by decide +kernel
theorem dX11_findEnds_81 : decode cX11_findEnds 81 = .ok (.iload 4, 2) := by decide +kernel
theorem dX11_findEnds_83 : decode cX11_findEnds 83 = .ok (.ifCond .lt 24, 3) := by decide +kernel
theorem dX11_findEnds_86 : decode cX11_findEnds 86 = .ok (.iload_n 3, 1) := by decide +kernel
theorem dX11_findEnds_87 : decode cX11_findEnds 87 = .ok (.ifCond .ne 13, 3) := by decide +kernel
theorem dX11_findEnds_90 : decode cX11_findEnds 90 = .ok (.iload 6, 2) := by decide +kernel
theorem dX11_findEnds_92 : decode cX11_findEnds 92 = .ok (.iload 4, 2) := by decide +kernel
theorem dX11_findEnds_94 : decode cX11_findEnds 94 = .ok (.if_icmp .le 18, 3) := by decide +kernel
theorem dX11_findEnds_97 : decode cX11_findEnds 97 = .ok (.goto 10, 3) := by decide +kernel
theorem dX11_findEnds_100 : decode cX11_findEnds 100 = .ok (.iload 6, 2) := by decide +kernel
theorem dX11_findEnds_102 : decode cX11_findEnds 102 = .ok (.iload 4, 2) := by decide +kernel
theorem dX11_findEnds_104 : decode cX11_findEnds 104 = .ok (.if_icmp .ge 8, 3) := by decide +kernel
theorem dX11_findEnds_107 : decode cX11_findEnds 107 = .ok (.iload 6, 2) := by decide +kernel
theorem dX11_findEnds_109 : decode cX11_findEnds 109 = .ok (.goto 5, 3) := by decide +kernel
theorem dX11_findEnds_112 : decode cX11_findEnds 112 = .ok (.iload 4, 2) := by decide +kernel
theorem dX11_findEnds_114 : decode cX11_findEnds 114 = .ok (.istore 4, 2) := by decide +kernel
theorem dX11_findEnds_116 : decode cX11_findEnds 116 = .ok (.iinc 5 1, 3) := by decide +kernel
theorem dX11_findEnds_119 : decode cX11_findEnds 119 = .ok (.goto (-92), 3) := by decide +kernel
theorem dX11_findEnds_122 : decode cX11_findEnds 122 = .ok (.aload_n 0, 1) := by decide +kernel
theorem dX11_findEnds_123 : decode cX11_findEnds 123 = .ok (.getfield 32, 3) := by decide +kernel
theorem dX11_findEnds_126 : decode cX11_findEnds 126 = .ok (.sipush 4096, 3) := by decide +kernel
theorem dX11_findEnds_129 : decode cX11_findEnds 129 = .ok (.iload_n 3, 1) := by decide +kernel
theorem dX11_findEnds_130 : decode cX11_findEnds 130 = .ok (.imul, 1) := by decide +kernel
theorem dX11_findEnds_131 : decode cX11_findEnds 131 = .ok (.iload_n 2, 1) := by decide +kernel
theorem dX11_findEnds_132 : decode cX11_findEnds 132 = .ok (.iadd, 1) := by decide +kernel
theorem dX11_findEnds_133 : decode cX11_findEnds 133 = .ok (.aload_n 0, 1) := by decide +kernel
theorem dX11_findEnds_134 : decode cX11_findEnds 134 = .ok (.getfield 22, 3) := by decide +kernel
theorem dX11_findEnds_137 : decode cX11_findEnds 137 = .ok (.iload_n 2, 1) := by decide +kernel
theorem dX11_findEnds_138 : decode cX11_findEnds 138 = .ok (.iaload, 1) := by decide +kernel
theorem dX11_findEnds_139 : decode cX11_findEnds 139 = .ok (.ifCond .ne 10, 3) := by decide +kernel
theorem dX11_findEnds_142 : decode cX11_findEnds 142 = .ok (.iload_n 2, 1) := by decide +kernel
theorem dX11_findEnds_143 : decode cX11_findEnds 143 = .ok (.invokestatic 144, 3) := by decide +kernel
theorem dX11_findEnds_146 : decode cX11_findEnds 146 = .ok (.goto 5, 3) := by decide +kernel
theorem dX11_findEnds_149 : decode cX11_findEnds 149 = .ok (.iload 4, 2) := by decide +kernel
theorem dX11_findEnds_151 : decode cX11_findEnds 151 = .ok (.iastore, 1) := by decide +kernel
theorem dX11_findEnds_152 : decode cX11_findEnds 152 = .ok (.iinc 3 1, 3) := by decide +kernel
theorem dX11_findEnds_155 : decode cX11_findEnds 155 = .ok (.goto (-140), 3) := by decide +kernel
theorem dX11_findEnds_158 : decode cX11_findEnds 158 = .ok (.iinc 2 (-1), 3) := by decide +kernel
theorem dX11_findEnds_161 : decode cX11_findEnds 161 = .ok (.goto (-152), 3) := by decide +kernel
theorem dX11_findEnds_164 : decode cX11_findEnds 164 = .ok (.return_, 1) := by decide +kernel
theorem dX11_game_0 : decode cX11_game 0 = .ok (.aload_n 0, 1) := by decide +kernel
theorem dX11_game_1 : decode cX11_game 1 = .ok (.iload_n 1, 1) := by decide +kernel
theorem dX11_game_2 : decode cX11_game 2 = .ok (.invokevirtual 127, 3) := by decide +kernel
theorem dX11_game_5 : decode cX11_game 5 = .ok (.ifCond .eq 23, 3) := by decide +kernel
theorem dX11_game_8 : decode cX11_game 8 = .ok (.iload_n 2, 1) := by decide +kernel
theorem dX11_game_9 : decode cX11_game 9 = .ok (.i2l, 1) := by decide +kernel
theorem dX11_game_10 : decode cX11_game 10 = .ok (.lconst 0, 1) := by decide +kernel
theorem dX11_game_11 : decode cX11_game 11 = .ok (.lconst 1, 1) := by decide +kernel
theorem dX11_game_12 : decode cX11_game 12 = .ok (.invokestatic 74, 3) := by decide +kernel
theorem dX11_game_15 : decode cX11_game 15 = .ok (.ifCond .eq 13, 3) := by decide +kernel
theorem dX11_game_18 : decode cX11_game 18 = .ok (.iload_n 3, 1) := by decide +kernel
theorem dX11_game_19 : decode cX11_game 19 = .ok (.i2l, 1) := by decide +kernel
theorem dX11_game_20 : decode cX11_game 20 = .ok (.lconst 0, 1) := by decide +kernel
theorem dX11_game_21 : decode cX11_game 21 = .ok (.lconst 1, 1) := by decide +kernel
theorem dX11_game_22 : decode cX11_game 22 = .ok (.invokestatic 74, 3) := by decide +kernel
theorem dX11_game_25 : decode cX11_game 25 = .ok (.ifCond .ne 6, 3) := by decide +kernel
theorem dX11_game_28 : decode cX11_game 28 = .ok (.bipush (-2), 2) := by decide +kernel
theorem dX11_game_30 : decode cX11_game 30 = .ok (.ireturn, 1) := by decide +kernel
theorem dX11_game_31 : decode cX11_game 31 = .ok (.aload_n 0, 1) := by decide +kernel
theorem dX11_game_32 : decode cX11_game 32 = .ok (.iload_n 1, 1) := by decide +kernel
theorem dX11_game_33 : decode cX11_game 33 = .ok (.invokevirtual 130, 3) := by decide +kernel
theorem dX11_game_36 : decode cX11_game 36 = .ok (.ifCond .ne 6, 3) := by decide +kernel
theorem dX11_game_39 : decode cX11_game 39 = .ok (.bipush (-3), 2) := by decide +kernel
theorem dX11_game_41 : decode cX11_game 41 = .ok (.ireturn, 1) := by decide +kernel
theorem dX11_game_42 : decode cX11_game 42 = .ok (.aload_n 0, 1) := by decide +kernel
theorem dX11_game_43 : decode cX11_game 43 = .ok (.invokevirtual 169, 3) := by decide +kernel
theorem dX11_game_46 : decode cX11_game 46 = .ok (.aload_n 0, 1) := by decide +kernel
theorem dX11_game_47 : decode cX11_game 47 = .ok (.getfield 32, 3) := by decide +kernel
theorem dX11_game_50 : decode cX11_game 50 = .ok (.sipush 4096, 3) := by decide +kernel
theorem dX11_game_53 : decode cX11_game 53 = .ok (.iload_n 2, 1) := by decide +kernel
theorem dX11_game_54 : decode cX11_game 54 = .ok (.imul, 1) := by decide +kernel
theorem dX11_game_55 : decode cX11_game 55 = .ok (.iload_n 1, 1) := by decide +kernel
theorem dX11_game_56 : decode cX11_game 56 = .ok (.iadd, 1) := by decide +kernel
theorem dX11_game_57 : decode cX11_game 57 = .ok (.iaload, 1) := by decide +kernel
theorem dX11_game_58 : decode cX11_game 58 = .ok (.istore 4, 2) := by decide +kernel
theorem dX11_game_60 : decode cX11_game 60 = .ok (.iload_n 3, 1) := by decide +kernel
theorem dX11_game_61 : decode cX11_game 61 = .ok (.ifCond .ne 6, 3) := by decide +kernel
theorem dX11_game_64 : decode cX11_game 64 = .ok (.iload 4, 2) := by decide +kernel
theorem dX11_game_66 : decode cX11_game 66 = .ok (.ireturn, 1) := by decide +kernel
theorem dX11_game_67 : decode cX11_game 67 = .ok (.bipush (-6), 2) := by decide +kernel
theorem dX11_game_69 : decode cX11_game 69 = .ok (.istore 5, 2) := by decide +kernel
theorem dX11_game_71 : decode cX11_game 71 = .ok (.aload_n 0, 1) := by decide +kernel
theorem dX11_game_72 : decode cX11_game 72 = .ok (.getfield 63, 3) := by decide +kernel
theorem dX11_game_75 : decode cX11_game 75 = .ok (.iconst 1, 1) := by decide +kernel
theorem dX11_game_76 : decode cX11_game 76 = .ok (.isub, 1) := by decide +kernel
theorem dX11_game_77 : decode cX11_game 77 = .ok (.istore 6, 2) := by decide +kernel
theorem dX11_game_79 : decode cX11_game 79 = .ok (.iload 6, 2) := by decide +kernel
theorem dX11_game_81 : decode cX11_game 81 = .ok (.ifCond .lt 69, 3) := by decide +kernel
theorem dX11_game_84 : decode cX11_game 84 = .ok (.aload_n 0, 1) := by decide +kernel
theorem dX11_game_85 : decode cX11_game 85 = .ok (.getfield 22, 3) := by decide +kernel
theorem dX11_game_88 : decode cX11_game 88 = .ok (.iload_n 1, 1) := by decide +kernel
theorem dX11_game_89 : decode cX11_game 89 = .ok (.iaload, 1) := by decide +kernel
theorem dX11_game_90 : decode cX11_game 90 = .ok (.iload 6, 2) := by decide +kernel
theorem dX11_game_92 : decode cX11_game 92 = .ok (.ishr, 1) := by decide +kernel
theorem dX11_game_93 : decode cX11_game 93 = .ok (.iconst 1, 1) := by decide +kernel
theorem dX11_game_94 : decode cX11_game 94 = .ok (.iand, 1) := by decide +kernel
theorem dX11_game_95 : decode cX11_game 95 = .ok (.iconst 1, 1) := by decide +kernel
theorem dX11_game_96 : decode cX11_game 96 = .ok (.if_icmp .ne 31, 3) := by decide +kernel
theorem dX11_game_99 : decode cX11_game 99 = .ok (.aload_n 0, 1) := by decide +kernel
theorem dX11_game_100 : decode cX11_game 100 = .ok (.getfield 32, 3) := by decide +kernel
theorem dX11_game_103 : decode cX11_game 103 = .ok (.sipush 4096, 3) := by decide +kernel
theorem dX11_game_106 : decode cX11_game 106 = .ok (.iconst 1, 1) := by decide +kernel
theorem dX11_game_107 : decode cX11_game 107 = .ok (.iload_n 2, 1) := by decide +kernel
theorem dX11_game_108 : decode cX11_game 108 = .ok (.isub, 1) := by decide +kernel
theorem dX11_game_109 : decode cX11_game 109 = .ok (.imul, 1) := by decide +kernel
theorem dX11_game_110 : decode cX11_game 110 = .ok (.iload_n 1, 1) := by decide +kernel
theorem dX11_game_111 : decode cX11_game 111 = .ok (.iconst 1, 1) := by decide +kernel
theorem dX11_game_112 : decode cX11_game 112 = .ok (.iload 6, 2) := by decide +kernel
theorem dX11_game_114 : decode cX11_game 114 = .ok (.ishl, 1) := by decide +kernel
theorem dX11_game_115 : decode cX11_game 115 = .ok (.ior, 1) := by decide +kernel
theorem dX11_game_116 : decode cX11_game 116 = .ok (.iadd, 1) := by decide +kernel
theorem dX11_game_117 : decode cX11_game 117 = .ok (.iaload, 1) := by decide +kernel
theorem dX11_game_118 : decode cX11_game 118 = .ok (.iload 4, 2) := by decide +kernel
theorem dX11_game_120 : decode cX11_game 120 = .ok (.if_icmp .ne 7, 3) := by decide +kernel
theorem dX11_game_123 : decode cX11_game 123 = .ok (.iconst 1, 1) := by decide +kernel
theorem dX11_game_124 : decode cX11_game 124 = .ok (.goto 4, 3) := by decide +kernel
theorem dX11_game_127 : decode cX11_game 127 = .ok (.iconst 0, 1) := by decide +kernel
theorem dX11_game_128 : decode cX11_game 128 = .ok (.istore 7, 2) := by decide +kernel
theorem dX11_game_130 : decode cX11_game 130 = .ok (.iload 7, 2) := by decide +kernel
theorem dX11_game_132 : decode cX11_game 132 = .ok (.ifCond .eq 8, 3) := by decide +kernel
theorem dX11_game_135 : decode cX11_game 135 = .ok (.iload 6, 2) := by decide +kernel
theorem dX11_game_137 : decode cX11_game 137 = .ok (.goto 5, 3) := by decide +kernel
theorem dX11_game_140 : decode cX11_game 140 = .ok (.iload 5, 2) := by decide +kernel
theorem dX11_game_142 : decode cX11_game 142 = .ok (.istore 5, 2) := by decide +kernel
theorem dX11_game_144 : decode cX11_game 144 = .ok (.iinc 6 (-1), 3) := by decide +kernel
theorem dX11_game_147 : decode cX11_game 147 = .ok (.goto (-68), 3) := by decide +kernel
theorem dX11_game_150 : decode cX11_game 150 = .ok (.iload 5, 2) := by decide +kernel
theorem dX11_game_152 : decode cX11_game 152 = .ok (.ireturn, 1) := by decide +kernel
theorem dX11_isPair_0 : decode cX11_isPair 0 = .ok (.aload_n 0, 1) := by decide +kernel
theorem dX11_isPair_1 : decode cX11_isPair 1 = .ok (.getfield 19, 3) := by decide +kernel
theorem dX11_isPair_4 : decode cX11_isPair 4 = .ok (.iload_n 1, 1) := by decide +kernel
theorem dX11_isPair_5 : decode cX11_isPair 5 = .ok (.iload_n 2, 1) := by decide +kernel
theorem dX11_isPair_6 : decode cX11_isPair 6 = .ok (.invokestatic 92, 3) := by decide +kernel
theorem dX11_isPair_9 : decode cX11_isPair 9 = .ok (.iaload, 1) := by decide +kernel
theorem dX11_isPair_10 : decode cX11_isPair 10 = .ok (.iconst 1, 1) := by decide +kernel
theorem dX11_isPair_11 : decode cX11_isPair 11 = .ok (.if_icmp .ne 33, 3) := by decide +kernel
theorem dX11_isPair_14 : decode cX11_isPair 14 = .ok (.aload_n 0, 1) := by decide +kernel
theorem dX11_isPair_15 : decode cX11_isPair 15 = .ok (.iload_n 1, 1) := by decide +kernel
theorem dX11_isPair_16 : decode cX11_isPair 16 = .ok (.iload_n 3, 1) := by decide +kernel
theorem dX11_isPair_17 : decode cX11_isPair 17 = .ok (.invokevirtual 108, 3) := by decide +kernel
theorem dX11_isPair_20 : decode cX11_isPair 20 = .ok (.aload_n 0, 1) := by decide +kernel
theorem dX11_isPair_21 : decode cX11_isPair 21 = .ok (.getfield 67, 3) := by decide +kernel
theorem dX11_isPair_24 : decode cX11_isPair 24 = .ok (.if_icmp .lt 20, 3) := by decide +kernel
theorem dX11_isPair_27 : decode cX11_isPair 27 = .ok (.aload_n 0, 1) := by decide +kernel
theorem dX11_isPair_28 : decode cX11_isPair 28 = .ok (.iload_n 2, 1) := by decide +kernel
theorem dX11_isPair_29 : decode cX11_isPair 29 = .ok (.iload_n 3, 1) := by decide +kernel
theorem dX11_isPair_30 : decode cX11_isPair 30 = .ok (.invokevirtual 108, 3) := by decide +kernel
theorem dX11_isPair_33 : decode cX11_isPair 33 = .ok (.aload_n 0, 1) := by decide +kernel
theorem dX11_isPair_34 : decode cX11_isPair 34 = .ok (.getfield 67, 3) := by decide +kernel
theorem dX11_isPair_37 : decode cX11_isPair 37 = .ok (.if_icmp .lt 7, 3) := by decide +kernel
theorem dX11_isPair_40 : decode cX11_isPair 40 = .ok (.iconst 1, 1) := by decide +kernel
theorem dX11_isPair_41 : decode cX11_isPair 41 = .ok (.goto 4, 3) := by decide +kernel
theorem dX11_isPair_44 : decode cX11_isPair 44 = .ok (.iconst 0, 1) := by decide +kernel
theorem dX11_isPair_45 : decode cX11_isPair 45 = .ok (.ireturn, 1) := by decide +kernel
theorem dX11_pairsInTurn_0 : decode cX11_pairsInTurn 0 = .ok (.iconst 0, 1) := by decide +kernel
theorem dX11_pairsInTurn_1 : decode cX11_pairsInTurn 1 = .ok (.istore_n 1, 1) := by decide +kernel
theorem dX11_pairsInTurn_2 : decode cX11_pairsInTurn 2 = .ok (.iconst 0, 1) := by decide +kernel
theorem dX11_pairsInTurn_3 : decode cX11_pairsInTurn 3 = .ok (.istore_n 2, 1) := by decide +kernel
theorem dX11_pairsInTurn_4 : decode cX11_pairsInTurn 4 = .ok (.iconst 1, 1) := by decide +kernel
theorem dX11_pairsInTurn_5 : decode cX11_pairsInTurn 5 = .ok (.istore_n 3, 1) := by decide +kernel
theorem dX11_pairsInTurn_6 : decode cX11_pairsInTurn 6 = .ok (.iload_n 3, 1) := by decide +kernel
theorem dX11_pairsInTurn_7 : decode cX11_pairsInTurn 7 = .ok (.ifCond .eq 84, 3) := by decide +kernel
theorem dX11_pairsInTurn_10 : decode cX11_pairsInTurn 10 = .ok (.iconst 0, 1) := by decide +kernel
theorem dX11_pairsInTurn_11 : decode cX11_pairsInTurn 11 = .ok (.istore_n 3, 1) := by decide +kernel
theorem dX11_pairsInTurn_12 : decode cX11_pairsInTurn 12 = .ok (.iconst 0, 1) := by decide +kernel
theorem dX11_pairsInTurn_13 : decode cX11_pairsInTurn 13 = .ok (.istore 4, 2) := by decide +kernel
theorem dX11_pairsInTurn_15 : decode cX11_pairsInTurn 15 = .ok (.iload 4, 2) := by decide +kernel
theorem dX11_pairsInTurn_17 : decode cX11_pairsInTurn 17 = .ok (.aload_n 0, 1) := by decide +kernel
theorem dX11_pairsInTurn_18 : decode cX11_pairsInTurn 18 = .ok (.getfield 63, 3) := by decide +kernel
theorem dX11_pairsInTurn_21 : decode cX11_pairsInTurn 21 = .ok (.if_icmp .ge 67, 3) := by decide +kernel
theorem dX11_pairsInTurn_24 : decode cX11_pairsInTurn 24 = .ok (.iload_n 3, 1) := by decide +kernel
theorem dX11_pairsInTurn_25 : decode cX11_pairsInTurn 25 = .ok (.ifCond .ne 63, 3) := by decide +kernel
theorem dX11_pairsInTurn_28 : decode cX11_pairsInTurn 28 = .ok (.iload 4, 2) := by decide +kernel
theorem dX11_pairsInTurn_30 : decode cX11_pairsInTurn 30 = .ok (.iconst 1, 1) := by decide +kernel
theorem dX11_pairsInTurn_31 : decode cX11_pairsInTurn 31 = .ok (.iadd, 1) := by decide +kernel
theorem dX11_pairsInTurn_32 : decode cX11_pairsInTurn 32 = .ok (.istore 5, 2) := by decide +kernel
theorem dX11_pairsInTurn_34 : decode cX11_pairsInTurn 34 = .ok (.iload 5, 2) := by decide +kernel
theorem dX11_pairsInTurn_36 : decode cX11_pairsInTurn 36 = .ok (.aload_n 0, 1) := by decide +kernel
theorem dX11_pairsInTurn_37 : decode cX11_pairsInTurn 37 = .ok (.getfield 63, 3) := by decide +kernel
theorem dX11_pairsInTurn_40 : decode cX11_pairsInTurn 40 = .ok (.if_icmp .ge 42, 3) := by decide +kernel
theorem dX11_pairsInTurn_43 : decode cX11_pairsInTurn 43 = .ok (.iload_n 3, 1) := by decide +kernel
theorem dX11_pairsInTurn_44 : decode cX11_pairsInTurn 44 = .ok (.ifCond .ne 38, 3) := by decide +kernel
theorem dX11_pairsInTurn_47 : decode cX11_pairsInTurn 47 = .ok (.aload_n 0, 1) := by decide +kernel
theorem dX11_pairsInTurn_48 : decode cX11_pairsInTurn 48 = .ok (.iload 4, 2) := by decide +kernel
theorem dX11_pairsInTurn_50 : decode cX11_pairsInTurn 50 = .ok (.iload 5, 2) := by decide +kernel
theorem dX11_pairsInTurn_52 : decode cX11_pairsInTurn 52 = .ok (.iload_n 1, 1) := by decide +kernel
theorem dX11_pairsInTurn_53 : decode cX11_pairsInTurn 53 = .ok (.invokevirtual 172, 3) := by decide +kernel
theorem dX11_pairsInTurn_56 : decode cX11_pairsInTurn 56 = .ok (.ifCond .eq 20, 3) := by decide +kernel
theorem dX11_pairsInTurn_59 : decode cX11_pairsInTurn 59 = .ok (.iload_n 1, 1) := by decide +kernel
theorem dX11_pairsInTurn_60 : decode cX11_pairsInTurn 60 = .ok (.iconst 1, 1) := by decide +kernel
theorem dX11_pairsInTurn_61 : decode cX11_pairsInTurn 61 = .ok (.iload 4, 2) := by decide +kernel
theorem dX11_pairsInTurn_63 : decode cX11_pairsInTurn 63 = .ok (.ishl, 1) := by decide +kernel
theorem dX11_pairsInTurn_64 : decode cX11_pairsInTurn 64 = .ok (.iconst 1, 1) := by decide +kernel
theorem dX11_pairsInTurn_65 : decode cX11_pairsInTurn 65 = .ok (.iload 5, 2) := by decide +kernel
theorem dX11_pairsInTurn_67 : decode cX11_pairsInTurn 67 = .ok (.ishl, 1) := by decide +kernel
theorem dX11_pairsInTurn_68 : decode cX11_pairsInTurn 68 = .ok (.ior, 1) := by decide +kernel
theorem dX11_pairsInTurn_69 : decode cX11_pairsInTurn 69 = .ok (.ior, 1) := by decide +kernel
theorem dX11_pairsInTurn_70 : decode cX11_pairsInTurn 70 = .ok (.istore_n 1, 1) := by decide +kernel
theorem dX11_pairsInTurn_71 : decode cX11_pairsInTurn 71 = .ok (.iinc 2 1, 3) := by decide +kernel
theorem dX11_pairsInTurn_74 : decode cX11_pairsInTurn 74 = .ok (.iconst 1, 1) := by decide +kernel
theorem dX11_pairsInTurn_75 : decode cX11_pairsInTurn 75 = .ok (.istore_n 3, 1) := by decide +kernel
theorem dX11_pairsInTurn_76 : decode cX11_pairsInTurn 76 = .ok (.iinc 5 1, 3) := by decide +kernel
theorem dX11_pairsInTurn_79 : decode cX11_pairsInTurn 79 = .ok (.goto (-45), 3) := by decide +kernel
theorem dX11_pairsInTurn_82 : decode cX11_pairsInTurn 82 = .ok (.iinc 4 1, 3) := by decide +kernel
theorem dX11_pairsInTurn_85 : decode cX11_pairsInTurn 85 = .ok (.goto (-70), 3) := by decide +kernel
theorem dX11_pairsInTurn_88 : decode cX11_pairsInTurn 88 = .ok (.goto (-82), 3) := by decide +kernel
theorem dX11_pairsInTurn_91 : decode cX11_pairsInTurn 91 = .ok (.iload_n 2, 1) := by decide +kernel
theorem dX11_pairsInTurn_92 : decode cX11_pairsInTurn 92 = .ok (.ireturn, 1) := by decide +kernel
theorem dX11_areApart_0 : decode cX11_areApart 0 = .ok (.iconst 1, 1) := by decide +kernel
theorem dX11_areApart_1 : decode cX11_areApart 1 = .ok (.istore_n 3, 1) := by decide +kernel
theorem dX11_areApart_2 : decode cX11_areApart 2 = .ok (.iconst 0, 1) := by decide +kernel
theorem dX11_areApart_3 : decode cX11_areApart 3 = .ok (.istore 4, 2) := by decide +kernel
theorem dX11_areApart_5 : decode cX11_areApart 5 = .ok (.iload 4, 2) := by decide +kernel
theorem dX11_areApart_7 : decode cX11_areApart 7 = .ok (.iload_n 2, 1) := by decide +kernel
theorem dX11_areApart_8 : decode cX11_areApart 8 = .ok (.if_icmp .ge 128, 3) := by decide +kernel
theorem dX11_areApart_11 : decode cX11_areApart 11 = .ok (.iconst 0, 1) := by decide +kernel
theorem dX11_areApart_12 : decode cX11_areApart 12 = .ok (.istore 5, 2) := by decide +kernel
theorem dX11_areApart_14 : decode cX11_areApart 14 = .ok (.iconst 0, 1) := by decide +kernel
theorem dX11_areApart_15 : decode cX11_areApart 15 = .ok (.istore 6, 2) := by decide +kernel
theorem dX11_areApart_17 : decode cX11_areApart 17 = .ok (.iload 6, 2) := by decide +kernel
theorem dX11_areApart_19 : decode cX11_areApart 19 = .ok (.iload_n 2, 1) := by decide +kernel
theorem dX11_areApart_20 : decode cX11_areApart 20 = .ok (.if_icmp .ge 42, 3) := by decide +kernel
theorem dX11_areApart_23 : decode cX11_areApart 23 = .ok (.iload 5, 2) := by decide +kernel
theorem dX11_areApart_25 : decode cX11_areApart 25 = .ok (.iload 6, 2) := by decide +kernel
theorem dX11_areApart_27 : decode cX11_areApart 27 = .ok (.iload 4, 2) := by decide +kernel
theorem dX11_areApart_29 : decode cX11_areApart 29 = .ok (.if_icmp .eq 23, 3) := by decide +kernel
theorem dX11_areApart_32 : decode cX11_areApart 32 = .ok (.iload_n 1, 1) := by decide +kernel
theorem dX11_areApart_33 : decode cX11_areApart 33 = .ok (.iload 6, 2) := by decide +kernel
theorem dX11_areApart_35 : decode cX11_areApart 35 = .ok (.ishr, 1) := by decide +kernel
theorem dX11_areApart_36 : decode cX11_areApart 36 = .ok (.iconst 1, 1) := by decide +kernel
theorem dX11_areApart_37 : decode cX11_areApart 37 = .ok (.iand, 1) := by decide +kernel
theorem dX11_areApart_38 : decode cX11_areApart 38 = .ok (.iconst 1, 1) := by decide +kernel
theorem dX11_areApart_39 : decode cX11_areApart 39 = .ok (.if_icmp .ne 13, 3) := by decide +kernel
theorem dX11_areApart_42 : decode cX11_areApart 42 = .ok (.aload_n 0, 1) := by decide +kernel
theorem dX11_areApart_43 : decode cX11_areApart 43 = .ok (.getfield 35, 3) := by decide +kernel
theorem dX11_areApart_46 : decode cX11_areApart 46 = .ok (.iload 6, 2) := by decide +kernel
theorem dX11_areApart_48 : decode cX11_areApart 48 = .ok (.iaload, 1) := by decide +kernel
theorem dX11_areApart_49 : decode cX11_areApart 49 = .ok (.goto 4, 3) := by decide +kernel
theorem dX11_areApart_52 : decode cX11_areApart 52 = .ok (.iconst 0, 1) := by decide +kernel
theorem dX11_areApart_53 : decode cX11_areApart 53 = .ok (.ior, 1) := by decide +kernel
theorem dX11_areApart_54 : decode cX11_areApart 54 = .ok (.istore 5, 2) := by decide +kernel
theorem dX11_areApart_56 : decode cX11_areApart 56 = .ok (.iinc 6 1, 3) := by decide +kernel
theorem dX11_areApart_59 : decode cX11_areApart 59 = .ok (.goto (-42), 3) := by decide +kernel
theorem dX11_areApart_62 : decode cX11_areApart 62 = .ok (.iconst 0, 1) := by decide +kernel
theorem dX11_areApart_63 : decode cX11_areApart 63 = .ok (.istore 6, 2) := by decide +kernel
theorem dX11_areApart_65 : decode cX11_areApart 65 = .ok (.iload 6, 2) := by decide +kernel
theorem dX11_areApart_67 : decode cX11_areApart 67 = .ok (.aload_n 0, 1) := by decide +kernel
theorem dX11_areApart_68 : decode cX11_areApart 68 = .ok (.getfield 63, 3) := by decide +kernel
theorem dX11_areApart_71 : decode cX11_areApart 71 = .ok (.if_icmp .ge 59, 3) := by decide +kernel
theorem dX11_areApart_74 : decode cX11_areApart 74 = .ok (.iload_n 1, 1) := by decide +kernel
theorem dX11_areApart_75 : decode cX11_areApart 75 = .ok (.iload 4, 2) := by decide +kernel
theorem dX11_areApart_77 : decode cX11_areApart 77 = .ok (.ishr, 1) := by decide +kernel
theorem dX11_areApart_78 : decode cX11_areApart 78 = .ok (.iconst 1, 1) := by decide +kernel
theorem dX11_areApart_79 : decode cX11_areApart 79 = .ok (.iand, 1) := by decide +kernel
theorem dX11_areApart_80 : decode cX11_areApart 80 = .ok (.iconst 1, 1) := by decide +kernel
theorem dX11_areApart_81 : decode cX11_areApart 81 = .ok (.if_icmp .ne 49, 3) := by decide +kernel
theorem dX11_areApart_84 : decode cX11_areApart 84 = .ok (.iload_n 3, 1) := by decide +kernel
theorem dX11_areApart_85 : decode cX11_areApart 85 = .ok (.ifCond .eq 37, 3) := by decide +kernel
theorem dX11_areApart_88 : decode cX11_areApart 88 = .ok (.aload_n 0, 1) := by decide +kernel
theorem dX11_areApart_89 : decode cX11_areApart 89 = .ok (.getfield 35, 3) := by decide +kernel
theorem dX11_areApart_92 : decode cX11_areApart 92 = .ok (.iload 4, 2) := by decide +kernel
theorem dX11_areApart_94 : decode cX11_areApart 94 = .ok (.iaload, 1) := by decide +kernel
theorem dX11_areApart_95 : decode cX11_areApart 95 = .ok (.iload 6, 2) := by decide +kernel
theorem dX11_areApart_97 : decode cX11_areApart 97 = .ok (.ishr, 1) := by decide +kernel
theorem dX11_areApart_98 : decode cX11_areApart 98 = .ok (.iconst 1, 1) := by decide +kernel
theorem dX11_areApart_99 : decode cX11_areApart 99 = .ok (.iand, 1) := by decide +kernel
theorem dX11_areApart_100 : decode cX11_areApart 100 = .ok (.ifCond .eq 18, 3) := by decide +kernel
theorem dX11_areApart_103 : decode cX11_areApart 103 = .ok (.aload_n 0, 1) := by decide +kernel
theorem dX11_areApart_104 : decode cX11_areApart 104 = .ok (.iload 6, 2) := by decide +kernel
theorem dX11_areApart_106 : decode cX11_areApart 106 = .ok (.iload 5, 2) := by decide +kernel
theorem dX11_areApart_108 : decode cX11_areApart 108 = .ok (.invokevirtual 108, 3) := by decide +kernel
theorem dX11_areApart_111 : decode cX11_areApart 111 = .ok (.aload_n 0, 1) := by decide +kernel
theorem dX11_areApart_112 : decode cX11_areApart 112 = .ok (.getfield 67, 3) := by decide +kernel
theorem dX11_areApart_115 : decode cX11_areApart 115 = .ok (.if_icmp .lt 7, 3) := by decide +kernel
theorem dX11_areApart_118 : decode cX11_areApart 118 = .ok (.iconst 1, 1) := by decide +kernel
theorem dX11_areApart_119 : decode cX11_areApart 119 = .ok (.goto 4, 3) := by decide +kernel
theorem dX11_areApart_122 : decode cX11_areApart 122 = .ok (.iconst 0, 1) := by decide +kernel
theorem dX11_areApart_123 : decode cX11_areApart 123 = .ok (.istore_n 3, 1) := by decide +kernel
theorem dX11_areApart_124 : decode cX11_areApart 124 = .ok (.iinc 6 1, 3) := by decide +kernel
theorem dX11_areApart_127 : decode cX11_areApart 127 = .ok (.goto (-62), 3) := by decide +kernel
theorem dX11_areApart_130 : decode cX11_areApart 130 = .ok (.iinc 4 1, 3) := by decide +kernel
theorem dX11_areApart_133 : decode cX11_areApart 133 = .ok (.goto (-128), 3) := by decide +kernel
theorem dX11_areApart_136 : decode cX11_areApart 136 = .ok (.iload_n 3, 1) := by decide +kernel
theorem dX11_areApart_137 : decode cX11_areApart 137 = .ok (.ireturn, 1) := by decide +kernel
theorem dX11_mostPairs_0 : decode cX11_mostPairs 0 = .ok (.iconst 0, 1) := by decide +kernel
theorem dX11_mostPairs_1 : decode cX11_mostPairs 1 = .ok (.istore_n 1, 1) := by decide +kernel
theorem dX11_mostPairs_2 : decode cX11_mostPairs 2 = .ok (.iconst 0, 1) := by decide +kernel
theorem dX11_mostPairs_3 : decode cX11_mostPairs 3 = .ok (.istore_n 2, 1) := by decide +kernel
theorem dX11_mostPairs_4 : decode cX11_mostPairs 4 = .ok (.iload_n 2, 1) := by decide +kernel
theorem dX11_mostPairs_5 : decode cX11_mostPairs 5 = .ok (.aload_n 0, 1) := by decide +kernel
theorem dX11_mostPairs_6 : decode cX11_mostPairs 6 = .ok (.getfield 63, 3) := by decide +kernel
theorem dX11_mostPairs_9 : decode cX11_mostPairs 9 = .ok (.if_icmp .ge 57, 3) := by decide +kernel
theorem dX11_mostPairs_12 : decode cX11_mostPairs 12 = .ok (.iload_n 2, 1) := by decide +kernel
theorem dX11_mostPairs_13 : decode cX11_mostPairs 13 = .ok (.iconst 1, 1) := by decide +kernel
theorem dX11_mostPairs_14 : decode cX11_mostPairs 14 = .ok (.iadd, 1) := by decide +kernel
theorem dX11_mostPairs_15 : decode cX11_mostPairs 15 = .ok (.istore_n 3, 1) := by decide +kernel
theorem dX11_mostPairs_16 : decode cX11_mostPairs 16 = .ok (.iload_n 3, 1) := by decide +kernel
theorem dX11_mostPairs_17 : decode cX11_mostPairs 17 = .ok (.aload_n 0, 1) := by decide +kernel
theorem dX11_mostPairs_18 : decode cX11_mostPairs 18 = .ok (.getfield 63, 3) := by decide +kernel
theorem dX11_mostPairs_21 : decode cX11_mostPairs 21 = .ok (.if_icmp .ge 39, 3) := by decide +kernel
theorem dX11_mostPairs_24 : decode cX11_mostPairs 24 = .ok (.aload_n 0, 1) := by decide +kernel
theorem dX11_mostPairs_25 : decode cX11_mostPairs 25 = .ok (.getfield 19, 3) := by decide +kernel
theorem dX11_mostPairs_28 : decode cX11_mostPairs 28 = .ok (.iload_n 2, 1) := by decide +kernel
theorem dX11_mostPairs_29 : decode cX11_mostPairs 29 = .ok (.iload_n 3, 1) := by decide +kernel
theorem dX11_mostPairs_30 : decode cX11_mostPairs 30 = .ok (.invokestatic 92, 3) := by decide +kernel
theorem dX11_mostPairs_33 : decode cX11_mostPairs 33 = .ok (.iaload, 1) := by decide +kernel
theorem dX11_mostPairs_34 : decode cX11_mostPairs 34 = .ok (.iconst 1, 1) := by decide +kernel
theorem dX11_mostPairs_35 : decode cX11_mostPairs 35 = .ok (.if_icmp .ne 19, 3) := by decide +kernel
theorem dX11_mostPairs_38 : decode cX11_mostPairs 38 = .ok (.aload_n 0, 1) := by decide +kernel
theorem dX11_mostPairs_39 : decode cX11_mostPairs 39 = .ok (.getfield 35, 3) := by decide +kernel
theorem dX11_mostPairs_42 : decode cX11_mostPairs 42 = .ok (.iload_n 1, 1) := by decide +kernel
theorem dX11_mostPairs_43 : decode cX11_mostPairs 43 = .ok (.iconst 1, 1) := by decide +kernel
theorem dX11_mostPairs_44 : decode cX11_mostPairs 44 = .ok (.iload_n 2, 1) := by decide +kernel
theorem dX11_mostPairs_45 : decode cX11_mostPairs 45 = .ok (.ishl, 1) := by decide +kernel
theorem dX11_mostPairs_46 : decode cX11_mostPairs 46 = .ok (.iconst 1, 1) := by decide +kernel
theorem dX11_mostPairs_47 : decode cX11_mostPairs 47 = .ok (.iload_n 3, 1) := by decide +kernel
theorem dX11_mostPairs_48 : decode cX11_mostPairs 48 = .ok (.ishl, 1) := by decide +kernel
theorem dX11_mostPairs_49 : decode cX11_mostPairs 49 = .ok (.ior, 1) := by decide +kernel
theorem dX11_mostPairs_50 : decode cX11_mostPairs 50 = .ok (.iastore, 1) := by decide +kernel
theorem dX11_mostPairs_51 : decode cX11_mostPairs 51 = .ok (.iinc 1 1, 3) := by decide +kernel
theorem dX11_mostPairs_54 : decode cX11_mostPairs 54 = .ok (.iinc 3 1, 3) := by decide +kernel
theorem dX11_mostPairs_57 : decode cX11_mostPairs 57 = .ok (.goto (-41), 3) := by decide +kernel
theorem dX11_mostPairs_60 : decode cX11_mostPairs 60 = .ok (.iinc 2 1, 3) := by decide +kernel
theorem dX11_mostPairs_63 : decode cX11_mostPairs 63 = .ok (.goto (-59), 3) := by decide +kernel
theorem dX11_mostPairs_66 : decode cX11_mostPairs 66 = .ok (.iconst 0, 1) := by decide +kernel
theorem dX11_mostPairs_67 : decode cX11_mostPairs 67 = .ok (.istore_n 2, 1) := by decide +kernel
theorem dX11_mostPairs_68 : decode cX11_mostPairs 68 = .ok (.iconst 0, 1) := by decide +kernel
theorem dX11_mostPairs_69 : decode cX11_mostPairs 69 = .ok (.istore_n 3, 1) := by decide +kernel
theorem dX11_mostPairs_70 : decode cX11_mostPairs 70 = .ok (.iload_n 3, 1) := by decide +kernel
theorem dX11_mostPairs_71 : decode cX11_mostPairs 71 = .ok (.iconst 1, 1) := by decide +kernel
theorem dX11_mostPairs_72 : decode cX11_mostPairs 72 = .ok (.iload_n 1, 1) := by decide +kernel
theorem dX11_mostPairs_73 : decode cX11_mostPairs 73 = .ok (.ishl, 1) := by decide +kernel
theorem dX11_mostPairs_74 : decode cX11_mostPairs 74 = .ok (.if_icmp .ge 35, 3) := by decide +kernel
theorem dX11_mostPairs_77 : decode cX11_mostPairs 77 = .ok (.iload_n 3, 1) := by decide +kernel
theorem dX11_mostPairs_78 : decode cX11_mostPairs 78 = .ok (.invokestatic 144, 3) := by decide +kernel
theorem dX11_mostPairs_81 : decode cX11_mostPairs 81 = .ok (.iload_n 2, 1) := by decide +kernel
theorem dX11_mostPairs_82 : decode cX11_mostPairs 82 = .ok (.if_icmp .le 19, 3) := by decide +kernel
theorem dX11_mostPairs_85 : decode cX11_mostPairs 85 = .ok (.aload_n 0, 1) := by decide +kernel
theorem dX11_mostPairs_86 : decode cX11_mostPairs 86 = .ok (.iload_n 3, 1) := by decide +kernel
theorem dX11_mostPairs_87 : decode cX11_mostPairs 87 = .ok (.iload_n 1, 1) := by decide +kernel
theorem dX11_mostPairs_88 : decode cX11_mostPairs 88 = .ok (.invokevirtual 176, 3) := by decide +kernel
theorem dX11_mostPairs_91 : decode cX11_mostPairs 91 = .ok (.ifCond .eq 10, 3) := by decide +kernel
theorem dX11_mostPairs_94 : decode cX11_mostPairs 94 = .ok (.iload_n 3, 1) := by decide +kernel
theorem dX11_mostPairs_95 : decode cX11_mostPairs 95 = .ok (.invokestatic 144, 3) := by decide +kernel
theorem dX11_mostPairs_98 : decode cX11_mostPairs 98 = .ok (.goto 4, 3) := by decide +kernel
theorem dX11_mostPairs_101 : decode cX11_mostPairs 101 = .ok (.iload_n 2, 1) := by decide +kernel
theorem dX11_mostPairs_102 : decode cX11_mostPairs 102 = .ok (.istore_n 2, 1) := by decide +kernel
theorem dX11_mostPairs_103 : decode cX11_mostPairs 103 = .ok (.iinc 3 1, 3) := by decide +kernel
theorem dX11_mostPairs_106 : decode cX11_mostPairs 106 = .ok (.goto (-36), 3) := by decide +kernel
theorem dX11_mostPairs_109 : decode cX11_mostPairs 109 = .ok (.iload_n 2, 1) := by decide +kernel
theorem dX11_mostPairs_110 : decode cX11_mostPairs 110 = .ok (.ireturn, 1) := by decide +kernel
theorem dX11_pairs_0 : decode cX11_pairs 0 = .ok (.iload_n 1, 1) := by decide +kernel
theorem dX11_pairs_1 : decode cX11_pairs 1 = .ok (.i2l, 1) := by decide +kernel
theorem dX11_pairs_2 : decode cX11_pairs 2 = .ok (.lconst 0, 1) := by decide +kernel
theorem dX11_pairs_3 : decode cX11_pairs 3 = .ok (.lconst 1, 1) := by decide +kernel
theorem dX11_pairs_4 : decode cX11_pairs 4 = .ok (.invokestatic 74, 3) := by decide +kernel
theorem dX11_pairs_7 : decode cX11_pairs 7 = .ok (.ifCond .ne 6, 3) := by decide +kernel
theorem dX11_pairs_10 : decode cX11_pairs 10 = .ok (.bipush (-2), 2) := by decide +kernel
theorem dX11_pairs_12 : decode cX11_pairs 12 = .ok (.ireturn, 1) := by decide +kernel
theorem dX11_pairs_13 : decode cX11_pairs 13 = .ok (.iload_n 1, 1) := by decide +kernel
theorem dX11_pairs_14 : decode cX11_pairs 14 = .ok (.ifCond .ne 10, 3) := by decide +kernel
theorem dX11_pairs_17 : decode cX11_pairs 17 = .ok (.aload_n 0, 1) := by decide +kernel
theorem dX11_pairs_18 : decode cX11_pairs 18 = .ok (.invokevirtual 180, 3) := by decide +kernel
theorem dX11_pairs_21 : decode cX11_pairs 21 = .ok (.goto 7, 3) := by decide +kernel
theorem dX11_pairs_24 : decode cX11_pairs 24 = .ok (.aload_n 0, 1) := by decide +kernel
theorem dX11_pairs_25 : decode cX11_pairs 25 = .ok (.invokevirtual 183, 3) := by decide +kernel
theorem dX11_pairs_28 : decode cX11_pairs 28 = .ok (.ireturn, 1) := by decide +kernel
theorem dX11_late_0 : decode cX11_late 0 = .ok (.iload_n 1, 1) := by decide +kernel
theorem dX11_late_1 : decode cX11_late 1 = .ok (.invokestatic 133, 3) := by decide +kernel
theorem dX11_late_4 : decode cX11_late 4 = .ok (.ifCond .eq 17, 3) := by decide +kernel
theorem dX11_late_7 : decode cX11_late 7 = .ok (.iload_n 2, 1) := by decide +kernel
theorem dX11_late_8 : decode cX11_late 8 = .ok (.i2l, 1) := by decide +kernel
theorem dX11_late_9 : decode cX11_late 9 = .ok (.lconst 1, 1) := by decide +kernel
theorem dX11_late_10 : decode cX11_late 10 = .ok (.aload_n 0, 1) := by decide +kernel
theorem dX11_late_11 : decode cX11_late 11 = .ok (.getfield 67, 3) := by decide +kernel
theorem dX11_late_14 : decode cX11_late 14 = .ok (.i2l, 1) := by decide +kernel
theorem dX11_late_15 : decode cX11_late 15 = .ok (.invokestatic 74, 3) := by decide +kernel
theorem dX11_late_18 : decode cX11_late 18 = .ok (.ifCond .ne 6, 3) := by decide +kernel
theorem dX11_late_21 : decode cX11_late 21 = .ok (.bipush (-2), 2) := by decide +kernel
theorem dX11_late_23 : decode cX11_late 23 = .ok (.ireturn, 1) := by decide +kernel
theorem dX11_late_24 : decode cX11_late 24 = .ok (.aload_n 0, 1) := by decide +kernel
theorem dX11_late_25 : decode cX11_late 25 = .ok (.getfield 67, 3) := by decide +kernel
theorem dX11_late_28 : decode cX11_late 28 = .ok (.istore_n 3, 1) := by decide +kernel
theorem dX11_late_29 : decode cX11_late 29 = .ok (.iconst 0, 1) := by decide +kernel
theorem dX11_late_30 : decode cX11_late 30 = .ok (.istore 4, 2) := by decide +kernel
theorem dX11_late_32 : decode cX11_late 32 = .ok (.aload_n 0, 1) := by decide +kernel
theorem dX11_late_33 : decode cX11_late 33 = .ok (.getfield 67, 3) := by decide +kernel
theorem dX11_late_36 : decode cX11_late 36 = .ok (.iload_n 2, 1) := by decide +kernel
theorem dX11_late_37 : decode cX11_late 37 = .ok (.if_icmp .lt 25, 3) := by decide +kernel
theorem dX11_late_40 : decode cX11_late 40 = .ok (.aload_n 0, 1) := by decide +kernel
theorem dX11_late_41 : decode cX11_late 41 = .ok (.iload 4, 2) := by decide +kernel
theorem dX11_late_43 : decode cX11_late 43 = .ok (.iload_n 1, 1) := by decide +kernel
theorem dX11_late_44 : decode cX11_late 44 = .ok (.invokevirtual 136, 3) := by decide +kernel
theorem dX11_late_47 : decode cX11_late 47 = .ok (.istore 4, 2) := by decide +kernel
theorem dX11_late_49 : decode cX11_late 49 = .ok (.aload_n 0, 1) := by decide +kernel
theorem dX11_late_50 : decode cX11_late 50 = .ok (.dup, 1) := by decide +kernel
theorem dX11_late_51 : decode cX11_late 51 = .ok (.getfield 67, 3) := by decide +kernel
theorem dX11_late_54 : decode cX11_late 54 = .ok (.iconst 1, 1) := by decide +kernel
theorem dX11_late_55 : decode cX11_late 55 = .ok (.isub, 1) := by decide +kernel
theorem dX11_late_56 : decode cX11_late 56 = .ok (.putfield 67, 3) := by decide +kernel
theorem dX11_late_59 : decode cX11_late 59 = .ok (.goto (-27), 3) := by decide +kernel
theorem dX11_late_62 : decode cX11_late 62 = .ok (.aload_n 0, 1) := by decide +kernel
theorem dX11_late_63 : decode cX11_late 63 = .ok (.iload_n 3, 1) := by decide +kernel
theorem dX11_late_64 : decode cX11_late 64 = .ok (.putfield 67, 3) := by decide +kernel
theorem dX11_late_67 : decode cX11_late 67 = .ok (.iload 4, 2) := by decide +kernel
theorem dX11_late_69 : decode cX11_late 69 = .ok (.invokestatic 144, 3) := by decide +kernel
theorem dX11_late_72 : decode cX11_late 72 = .ok (.ireturn, 1) := by decide +kernel
theorem dX11_sitIn_0 : decode cX11_sitIn 0 = .ok (.iconst 0, 1) := by decide +kernel
theorem dX11_sitIn_1 : decode cX11_sitIn 1 = .ok (.istore_n 3, 1) := by decide +kernel
theorem dX11_sitIn_2 : decode cX11_sitIn 2 = .ok (.iload_n 3, 1) := by decide +kernel
theorem dX11_sitIn_3 : decode cX11_sitIn 3 = .ok (.iload_n 1, 1) := by decide +kernel
theorem dX11_sitIn_4 : decode cX11_sitIn 4 = .ok (.if_icmp .ge 53, 3) := by decide +kernel
theorem dX11_sitIn_7 : decode cX11_sitIn 7 = .ok (.iload_n 3, 1) := by decide +kernel
theorem dX11_sitIn_8 : decode cX11_sitIn 8 = .ok (.iload_n 2, 1) := by decide +kernel
theorem dX11_sitIn_9 : decode cX11_sitIn 9 = .ok (.if_icmp .ge 9, 3) := by decide +kernel
theorem dX11_sitIn_12 : decode cX11_sitIn 12 = .ok (.iload_n 2, 1) := by decide +kernel
theorem dX11_sitIn_13 : decode cX11_sitIn 13 = .ok (.iload_n 3, 1) := by decide +kernel
theorem dX11_sitIn_14 : decode cX11_sitIn 14 = .ok (.isub, 1) := by decide +kernel
theorem dX11_sitIn_15 : decode cX11_sitIn 15 = .ok (.goto 6, 3) := by decide +kernel
theorem dX11_sitIn_18 : decode cX11_sitIn 18 = .ok (.iload_n 3, 1) := by decide +kernel
theorem dX11_sitIn_19 : decode cX11_sitIn 19 = .ok (.iload_n 2, 1) := by decide +kernel
theorem dX11_sitIn_20 : decode cX11_sitIn 20 = .ok (.isub, 1) := by decide +kernel
theorem dX11_sitIn_21 : decode cX11_sitIn 21 = .ok (.istore 4, 2) := by decide +kernel
theorem dX11_sitIn_23 : decode cX11_sitIn 23 = .ok (.aload_n 0, 1) := by decide +kernel
theorem dX11_sitIn_24 : decode cX11_sitIn 24 = .ok (.getfield 38, 3) := by decide +kernel
theorem dX11_sitIn_27 : decode cX11_sitIn 27 = .ok (.iload_n 3, 1) := by decide +kernel
theorem dX11_sitIn_28 : decode cX11_sitIn 28 = .ok (.iload 4, 2) := by decide +kernel
theorem dX11_sitIn_30 : decode cX11_sitIn 30 = .ok (.aload_n 0, 1) := by decide +kernel
theorem dX11_sitIn_31 : decode cX11_sitIn 31 = .ok (.getfield 38, 3) := by decide +kernel
theorem dX11_sitIn_34 : decode cX11_sitIn 34 = .ok (.iload_n 3, 1) := by decide +kernel
theorem dX11_sitIn_35 : decode cX11_sitIn 35 = .ok (.iaload, 1) := by decide +kernel
theorem dX11_sitIn_36 : decode cX11_sitIn 36 = .ok (.if_icmp .ge 8, 3) := by decide +kernel
theorem dX11_sitIn_39 : decode cX11_sitIn 39 = .ok (.iload 4, 2) := by decide +kernel
theorem dX11_sitIn_41 : decode cX11_sitIn 41 = .ok (.goto 9, 3) := by decide +kernel
theorem dX11_sitIn_44 : decode cX11_sitIn 44 = .ok (.aload_n 0, 1) := by decide +kernel
theorem dX11_sitIn_45 : decode cX11_sitIn 45 = .ok (.getfield 38, 3) := by decide +kernel
theorem dX11_sitIn_48 : decode cX11_sitIn 48 = .ok (.iload_n 3, 1) := by decide +kernel
theorem dX11_sitIn_49 : decode cX11_sitIn 49 = .ok (.iaload, 1) := by decide +kernel
theorem dX11_sitIn_50 : decode cX11_sitIn 50 = .ok (.iastore, 1) := by decide +kernel
theorem dX11_sitIn_51 : decode cX11_sitIn 51 = .ok (.iinc 3 1, 3) := by decide +kernel
theorem dX11_sitIn_54 : decode cX11_sitIn 54 = .ok (.goto (-52), 3) := by decide +kernel
theorem dX11_sitIn_57 : decode cX11_sitIn 57 = .ok (.return_, 1) := by decide +kernel
theorem dX11_rowsOf_0 : decode cX11_rowsOf 0 = .ok (.iconst 0, 1) := by decide +kernel
theorem dX11_rowsOf_1 : decode cX11_rowsOf 1 = .ok (.istore_n 3, 1) := by decide +kernel
theorem dX11_rowsOf_2 : decode cX11_rowsOf 2 = .ok (.iload_n 3, 1) := by decide +kernel
theorem dX11_rowsOf_3 : decode cX11_rowsOf 3 = .ok (.iload_n 1, 1) := by decide +kernel
theorem dX11_rowsOf_4 : decode cX11_rowsOf 4 = .ok (.if_icmp .ge 18, 3) := by decide +kernel
theorem dX11_rowsOf_7 : decode cX11_rowsOf 7 = .ok (.aload_n 0, 1) := by decide +kernel
theorem dX11_rowsOf_8 : decode cX11_rowsOf 8 = .ok (.getfield 38, 3) := by decide +kernel
theorem dX11_rowsOf_11 : decode cX11_rowsOf 11 = .ok (.iload_n 3, 1) := by decide +kernel
theorem dX11_rowsOf_12 : decode cX11_rowsOf 12 = .ok (.sipush 1000, 3) := by decide +kernel
theorem dX11_rowsOf_15 : decode cX11_rowsOf 15 = .ok (.iastore, 1) := by decide +kernel
theorem dX11_rowsOf_16 : decode cX11_rowsOf 16 = .ok (.iinc 3 1, 3) := by decide +kernel
theorem dX11_rowsOf_19 : decode cX11_rowsOf 19 = .ok (.goto (-17), 3) := by decide +kernel
theorem dX11_rowsOf_22 : decode cX11_rowsOf 22 = .ok (.iconst 0, 1) := by decide +kernel
theorem dX11_rowsOf_23 : decode cX11_rowsOf 23 = .ok (.istore_n 3, 1) := by decide +kernel
theorem dX11_rowsOf_24 : decode cX11_rowsOf 24 = .ok (.iload_n 2, 1) := by decide +kernel
theorem dX11_rowsOf_25 : decode cX11_rowsOf 25 = .ok (.istore 4, 2) := by decide +kernel
theorem dX11_rowsOf_27 : decode cX11_rowsOf 27 = .ok (.iload 4, 2) := by decide +kernel
theorem dX11_rowsOf_29 : decode cX11_rowsOf 29 = .ok (.ifCond .lt 63, 3) := by decide +kernel
theorem dX11_rowsOf_32 : decode cX11_rowsOf 32 = .ok (.aload_n 0, 1) := by decide +kernel
theorem dX11_rowsOf_33 : decode cX11_rowsOf 33 = .ok (.iload_n 1, 1) := by decide +kernel
theorem dX11_rowsOf_34 : decode cX11_rowsOf 34 = .ok (.iload 4, 2) := by decide +kernel
theorem dX11_rowsOf_36 : decode cX11_rowsOf 36 = .ok (.invokevirtual 186, 3) := by decide +kernel
theorem dX11_rowsOf_39 : decode cX11_rowsOf 39 = .ok (.iinc 3 1, 3) := by decide +kernel
theorem dX11_rowsOf_42 : decode cX11_rowsOf 42 = .ok (.bipush (-6), 2) := by decide +kernel
theorem dX11_rowsOf_44 : decode cX11_rowsOf 44 = .ok (.istore 4, 2) := by decide +kernel
theorem dX11_rowsOf_46 : decode cX11_rowsOf 46 = .ok (.iconst 1, 1) := by decide +kernel
theorem dX11_rowsOf_47 : decode cX11_rowsOf 47 = .ok (.istore 5, 2) := by decide +kernel
theorem dX11_rowsOf_49 : decode cX11_rowsOf 49 = .ok (.iconst 0, 1) := by decide +kernel
theorem dX11_rowsOf_50 : decode cX11_rowsOf 50 = .ok (.istore 6, 2) := by decide +kernel
theorem dX11_rowsOf_52 : decode cX11_rowsOf 52 = .ok (.iload 6, 2) := by decide +kernel
theorem dX11_rowsOf_54 : decode cX11_rowsOf 54 = .ok (.iload_n 1, 1) := by decide +kernel
theorem dX11_rowsOf_55 : decode cX11_rowsOf 55 = .ok (.if_icmp .ge 34, 3) := by decide +kernel
theorem dX11_rowsOf_58 : decode cX11_rowsOf 58 = .ok (.aload_n 0, 1) := by decide +kernel
theorem dX11_rowsOf_59 : decode cX11_rowsOf 59 = .ok (.getfield 38, 3) := by decide +kernel
theorem dX11_rowsOf_62 : decode cX11_rowsOf 62 = .ok (.iload 6, 2) := by decide +kernel
theorem dX11_rowsOf_64 : decode cX11_rowsOf 64 = .ok (.iaload, 1) := by decide +kernel
theorem dX11_rowsOf_65 : decode cX11_rowsOf 65 = .ok (.iload 5, 2) := by decide +kernel
theorem dX11_rowsOf_67 : decode cX11_rowsOf 67 = .ok (.if_icmp .le 16, 3) := by decide +kernel
theorem dX11_rowsOf_70 : decode cX11_rowsOf 70 = .ok (.aload_n 0, 1) := by decide +kernel
theorem dX11_rowsOf_71 : decode cX11_rowsOf 71 = .ok (.getfield 38, 3) := by decide +kernel
theorem dX11_rowsOf_74 : decode cX11_rowsOf 74 = .ok (.iload 6, 2) := by decide +kernel
theorem dX11_rowsOf_76 : decode cX11_rowsOf 76 = .ok (.iaload, 1) := by decide +kernel
theorem dX11_rowsOf_77 : decode cX11_rowsOf 77 = .ok (.istore 5, 2) := by decide +kernel
theorem dX11_rowsOf_79 : decode cX11_rowsOf 79 = .ok (.iload 6, 2) := by decide +kernel
theorem dX11_rowsOf_81 : decode cX11_rowsOf 81 = .ok (.istore 4, 2) := by decide +kernel
theorem dX11_rowsOf_83 : decode cX11_rowsOf 83 = .ok (.iinc 6 1, 3) := by decide +kernel
theorem dX11_rowsOf_86 : decode cX11_rowsOf 86 = .ok (.goto (-34), 3) := by decide +kernel
theorem dX11_rowsOf_89 : decode cX11_rowsOf 89 = .ok (.goto (-62), 3) := by decide +kernel
theorem dX11_rowsOf_92 : decode cX11_rowsOf 92 = .ok (.iload_n 3, 1) := by decide +kernel
theorem dX11_rowsOf_93 : decode cX11_rowsOf 93 = .ok (.ireturn, 1) := by decide +kernel
theorem dX11_rows_0 : decode cX11_rows 0 = .ok (.iload_n 1, 1) := by decide +kernel
theorem dX11_rows_1 : decode cX11_rows 1 = .ok (.i2l, 1) := by decide +kernel
theorem dX11_rows_2 : decode cX11_rows 2 = .ok (.lconst 1, 1) := by decide +kernel
theorem dX11_rows_3 : decode cX11_rows 3 = .ok (.ldc2_w 190, 3) := by decide +kernel
theorem dX11_rows_6 : decode cX11_rows 6 = .ok (.invokestatic 74, 3) := by decide +kernel
theorem dX11_rows_9 : decode cX11_rows 9 = .ok (.ifCond .ne 6, 3) := by decide +kernel
theorem dX11_rows_12 : decode cX11_rows 12 = .ok (.bipush (-2), 2) := by decide +kernel
theorem dX11_rows_14 : decode cX11_rows 14 = .ok (.ireturn, 1) := by decide +kernel
theorem dX11_rows_15 : decode cX11_rows 15 = .ok (.iload_n 2, 1) := by decide +kernel
theorem dX11_rows_16 : decode cX11_rows 16 = .ok (.i2l, 1) := by decide +kernel
theorem dX11_rows_17 : decode cX11_rows 17 = .ok (.lconst 0, 1) := by decide +kernel
theorem dX11_rows_18 : decode cX11_rows 18 = .ok (.iload_n 1, 1) := by decide +kernel
theorem dX11_rows_19 : decode cX11_rows 19 = .ok (.iconst 1, 1) := by decide +kernel
theorem dX11_rows_20 : decode cX11_rows 20 = .ok (.isub, 1) := by decide +kernel
theorem dX11_rows_21 : decode cX11_rows 21 = .ok (.i2l, 1) := by decide +kernel
theorem dX11_rows_22 : decode cX11_rows 22 = .ok (.invokestatic 74, 3) := by decide +kernel
theorem dX11_rows_25 : decode cX11_rows 25 = .ok (.ifCond .eq 12, 3) := by decide +kernel
theorem dX11_rows_28 : decode cX11_rows 28 = .ok (.aload_n 0, 1) := by decide +kernel
theorem dX11_rows_29 : decode cX11_rows 29 = .ok (.iload_n 1, 1) := by decide +kernel
theorem dX11_rows_30 : decode cX11_rows 30 = .ok (.iload_n 2, 1) := by decide +kernel
theorem dX11_rows_31 : decode cX11_rows 31 = .ok (.invokevirtual 192, 3) := by decide +kernel
theorem dX11_rows_34 : decode cX11_rows 34 = .ok (.goto 4, 3) := by decide +kernel
theorem dX11_rows_37 : decode cX11_rows 37 = .ok (.iconst (-1), 1) := by decide +kernel
theorem dX11_rows_38 : decode cX11_rows 38 = .ok (.ireturn, 1) := by decide +kernel
theorem dX11_longer_0 : decode cX11_longer 0 = .ok (.iload_n 1, 1) := by decide +kernel
theorem dX11_longer_1 : decode cX11_longer 1 = .ok (.i2l, 1) := by decide +kernel
theorem dX11_longer_2 : decode cX11_longer 2 = .ok (.lconst 1, 1) := by decide +kernel
theorem dX11_longer_3 : decode cX11_longer 3 = .ok (.ldc2_w 195, 3) := by decide +kernel
theorem dX11_longer_6 : decode cX11_longer 6 = .ok (.invokestatic 74, 3) := by decide +kernel
theorem dX11_longer_9 : decode cX11_longer 9 = .ok (.ifCond .ne 6, 3) := by decide +kernel
theorem dX11_longer_12 : decode cX11_longer 12 = .ok (.bipush (-2), 2) := by decide +kernel
theorem dX11_longer_14 : decode cX11_longer 14 = .ok (.ireturn, 1) := by decide +kernel
theorem dX11_longer_15 : decode cX11_longer 15 = .ok (.iconst 1, 1) := by decide +kernel
theorem dX11_longer_16 : decode cX11_longer 16 = .ok (.istore_n 2, 1) := by decide +kernel
theorem dX11_longer_17 : decode cX11_longer 17 = .ok (.iload_n 2, 1) := by decide +kernel
theorem dX11_longer_18 : decode cX11_longer 18 = .ok (.sipush 200, 3) := by decide +kernel
theorem dX11_longer_21 : decode cX11_longer 21 = .ok (.if_icmp .gt 21, 3) := by decide +kernel
theorem dX11_longer_24 : decode cX11_longer 24 = .ok (.aload_n 0, 1) := by decide +kernel
theorem dX11_longer_25 : decode cX11_longer 25 = .ok (.iload_n 2, 1) := by decide +kernel
theorem dX11_longer_26 : decode cX11_longer 26 = .ok (.iconst 0, 1) := by decide +kernel
theorem dX11_longer_27 : decode cX11_longer 27 = .ok (.invokevirtual 192, 3) := by decide +kernel
theorem dX11_longer_30 : decode cX11_longer 30 = .ok (.iload_n 1, 1) := by decide +kernel
theorem dX11_longer_31 : decode cX11_longer 31 = .ok (.if_icmp .lt 5, 3) := by decide +kernel
theorem dX11_longer_34 : decode cX11_longer 34 = .ok (.iload_n 2, 1) := by decide +kernel
theorem dX11_longer_35 : decode cX11_longer 35 = .ok (.ireturn, 1) := by decide +kernel
theorem dX11_longer_36 : decode cX11_longer 36 = .ok (.iinc 2 1, 3) := by decide +kernel
theorem dX11_longer_39 : decode cX11_longer 39 = .ok (.goto (-22), 3) := by decide +kernel
theorem dX11_longer_42 : decode cX11_longer 42 = .ok (.bipush (-6), 2) := by decide +kernel
theorem dX11_longer_44 : decode cX11_longer 44 = .ok (.ireturn, 1) := by decide +kernel
theorem dX11_arms_0 : decode cX11_arms 0 = .ok (.iload_n 1, 1) := by decide +kernel
theorem dX11_arms_1 : decode cX11_arms 1 = .ok (.invokestatic 133, 3) := by decide +kernel
theorem dX11_arms_4 : decode cX11_arms 4 = .ok (.ifCond .eq 25, 3) := by decide +kernel
theorem dX11_arms_7 : decode cX11_arms 7 = .ok (.iload_n 2, 1) := by decide +kernel
theorem dX11_arms_8 : decode cX11_arms 8 = .ok (.i2l, 1) := by decide +kernel
theorem dX11_arms_9 : decode cX11_arms 9 = .ok (.lconst 0, 1) := by decide +kernel
theorem dX11_arms_10 : decode cX11_arms 10 = .ok (.ldc2_w 139, 3) := by decide +kernel
theorem dX11_arms_13 : decode cX11_arms 13 = .ok (.invokestatic 74, 3) := by decide +kernel
theorem dX11_arms_16 : decode cX11_arms 16 = .ok (.ifCond .eq 13, 3) := by decide +kernel
theorem dX11_arms_19 : decode cX11_arms 19 = .ok (.iload_n 3, 1) := by decide +kernel
theorem dX11_arms_20 : decode cX11_arms 20 = .ok (.i2l, 1) := by decide +kernel
theorem dX11_arms_21 : decode cX11_arms 21 = .ok (.lconst 0, 1) := by decide +kernel
theorem dX11_arms_22 : decode cX11_arms 22 = .ok (.lconst 1, 1) := by decide +kernel
theorem dX11_arms_23 : decode cX11_arms 23 = .ok (.invokestatic 74, 3) := by decide +kernel
theorem dX11_arms_26 : decode cX11_arms 26 = .ok (.ifCond .ne 6, 3) := by decide +kernel
theorem dX11_arms_29 : decode cX11_arms 29 = .ok (.bipush (-2), 2) := by decide +kernel
theorem dX11_arms_31 : decode cX11_arms 31 = .ok (.ireturn, 1) := by decide +kernel
theorem dX11_arms_32 : decode cX11_arms 32 = .ok (.bipush (-6), 2) := by decide +kernel
theorem dX11_arms_34 : decode cX11_arms 34 = .ok (.istore 4, 2) := by decide +kernel
theorem dX11_arms_36 : decode cX11_arms 36 = .ok (.iconst 0, 1) := by decide +kernel
theorem dX11_arms_37 : decode cX11_arms 37 = .ok (.istore 5, 2) := by decide +kernel
theorem dX11_arms_39 : decode cX11_arms 39 = .ok (.iconst 0, 1) := by decide +kernel
theorem dX11_arms_40 : decode cX11_arms 40 = .ok (.istore 6, 2) := by decide +kernel
theorem dX11_arms_42 : decode cX11_arms 42 = .ok (.iload 6, 2) := by decide +kernel
theorem dX11_arms_44 : decode cX11_arms 44 = .ok (.iconst 1, 1) := by decide +kernel
theorem dX11_arms_45 : decode cX11_arms 45 = .ok (.aload_n 0, 1) := by decide +kernel
theorem dX11_arms_46 : decode cX11_arms 46 = .ok (.getfield 63, 3) := by decide +kernel
theorem dX11_arms_49 : decode cX11_arms 49 = .ok (.iconst 1, 1) := by decide +kernel
theorem dX11_arms_50 : decode cX11_arms 50 = .ok (.isub, 1) := by decide +kernel
theorem dX11_arms_51 : decode cX11_arms 51 = .ok (.ishl, 1) := by decide +kernel
theorem dX11_arms_52 : decode cX11_arms 52 = .ok (.if_icmp .ge 75, 3) := by decide +kernel
theorem dX11_arms_55 : decode cX11_arms 55 = .ok (.iload 6, 2) := by decide +kernel
theorem dX11_arms_57 : decode cX11_arms 57 = .ok (.invokestatic 144, 3) := by decide +kernel
theorem dX11_arms_60 : decode cX11_arms 60 = .ok (.iload_n 2, 1) := by decide +kernel
theorem dX11_arms_61 : decode cX11_arms 61 = .ok (.if_icmp .gt 60, 3) := by decide +kernel
theorem dX11_arms_64 : decode cX11_arms 64 = .ok (.aload_n 0, 1) := by decide +kernel
theorem dX11_arms_65 : decode cX11_arms 65 = .ok (.iload 6, 2) := by decide +kernel
theorem dX11_arms_67 : decode cX11_arms 67 = .ok (.invokevirtual 70, 3) := by decide +kernel
theorem dX11_arms_70 : decode cX11_arms 70 = .ok (.aload_n 0, 1) := by decide +kernel
theorem dX11_arms_71 : decode cX11_arms 71 = .ok (.iconst 0, 1) := by decide +kernel
theorem dX11_arms_72 : decode cX11_arms 72 = .ok (.iload_n 1, 1) := by decide +kernel
theorem dX11_arms_73 : decode cX11_arms 73 = .ok (.invokevirtual 136, 3) := by decide +kernel
theorem dX11_arms_76 : decode cX11_arms 76 = .ok (.invokestatic 144, 3) := by decide +kernel
theorem dX11_arms_79 : decode cX11_arms 79 = .ok (.istore 7, 2) := by decide +kernel
theorem dX11_arms_81 : decode cX11_arms 81 = .ok (.iload 4, 2) := by decide +kernel
theorem dX11_arms_83 : decode cX11_arms 83 = .ok (.ifCond .lt 30, 3) := by decide +kernel
theorem dX11_arms_86 : decode cX11_arms 86 = .ok (.iload 7, 2) := by decide +kernel
theorem dX11_arms_88 : decode cX11_arms 88 = .ok (.iload 5, 2) := by decide +kernel
theorem dX11_arms_90 : decode cX11_arms 90 = .ok (.if_icmp .gt 23, 3) := by decide +kernel
theorem dX11_arms_93 : decode cX11_arms 93 = .ok (.iload 7, 2) := by decide +kernel
theorem dX11_arms_95 : decode cX11_arms 95 = .ok (.iload 5, 2) := by decide +kernel
theorem dX11_arms_97 : decode cX11_arms 97 = .ok (.if_icmp .ne 24, 3) := by decide +kernel
theorem dX11_arms_100 : decode cX11_arms 100 = .ok (.iload 6, 2) := by decide +kernel
theorem dX11_arms_102 : decode cX11_arms 102 = .ok (.invokestatic 144, 3) := by decide +kernel
theorem dX11_arms_105 : decode cX11_arms 105 = .ok (.iload 4, 2) := by decide +kernel
theorem dX11_arms_107 : decode cX11_arms 107 = .ok (.invokestatic 144, 3) := by decide +kernel
theorem dX11_arms_110 : decode cX11_arms 110 = .ok (.if_icmp .ge 11, 3) := by decide +kernel
theorem dX11_arms_113 : decode cX11_arms 113 = .ok (.iload 6, 2) := by decide +kernel
theorem dX11_arms_115 : decode cX11_arms 115 = .ok (.istore 4, 2) := by decide +kernel
theorem dX11_arms_117 : decode cX11_arms 117 = .ok (.iload 7, 2) := by decide +kernel
theorem dX11_arms_119 : decode cX11_arms 119 = .ok (.istore 5, 2) := by decide +kernel
theorem dX11_arms_121 : decode cX11_arms 121 = .ok (.iinc 6 1, 3) := by decide +kernel
theorem dX11_arms_124 : decode cX11_arms 124 = .ok (.goto (-82), 3) := by decide +kernel
theorem dX11_arms_127 : decode cX11_arms 127 = .ok (.aload_n 0, 1) := by decide +kernel
theorem dX11_arms_128 : decode cX11_arms 128 = .ok (.iconst 0, 1) := by decide +kernel
theorem dX11_arms_129 : decode cX11_arms 129 = .ok (.invokevirtual 70, 3) := by decide +kernel
theorem dX11_arms_132 : decode cX11_arms 132 = .ok (.iload_n 3, 1) := by decide +kernel
theorem dX11_arms_133 : decode cX11_arms 133 = .ok (.ifCond .ne 8, 3) := by decide +kernel
theorem dX11_arms_136 : decode cX11_arms 136 = .ok (.iload 4, 2) := by decide +kernel
theorem dX11_arms_138 : decode cX11_arms 138 = .ok (.goto 5, 3) := by decide +kernel
theorem dX11_arms_141 : decode cX11_arms 141 = .ok (.iload 5, 2) := by decide +kernel
theorem dX11_arms_143 : decode cX11_arms 143 = .ok (.ireturn, 1) := by decide +kernel
theorem dX11_rests_0 : decode cX11_rests 0 = .ok (.iload_n 1, 1) := by decide +kernel
theorem dX11_rests_1 : decode cX11_rests 1 = .ok (.i2l, 1) := by decide +kernel
theorem dX11_rests_2 : decode cX11_rests 2 = .ok (.lconst 0, 1) := by decide +kernel
theorem dX11_rests_3 : decode cX11_rests 3 = .ok (.ldc2_w 139, 3) := by decide +kernel
theorem dX11_rests_6 : decode cX11_rests 6 = .ok (.invokestatic 74, 3) := by decide +kernel
theorem dX11_rests_9 : decode cX11_rests 9 = .ok (.ifCond .ne 6, 3) := by decide +kernel
theorem dX11_rests_12 : decode cX11_rests 12 = .ok (.bipush (-2), 2) := by decide +kernel
theorem dX11_rests_14 : decode cX11_rests 14 = .ok (.ireturn, 1) := by decide +kernel
theorem dX11_rests_15 : decode cX11_rests 15 = .ok (.bipush (-6), 2) := by decide +kernel
theorem dX11_rests_17 : decode cX11_rests 17 = .ok (.istore_n 2, 1) := by decide +kernel
theorem dX11_rests_18 : decode cX11_rests 18 = .ok (.lconst 0, 1) := by decide +kernel
theorem dX11_rests_19 : decode cX11_rests 19 = .ok (.lstore_n 3, 1) := by decide +kernel
theorem dX11_rests_20 : decode cX11_rests 20 = .ok (.iconst 0, 1) := by decide +kernel
theorem dX11_rests_21 : decode cX11_rests 21 = .ok (.istore 5, 2) := by decide +kernel
theorem dX11_rests_23 : decode cX11_rests 23 = .ok (.iload 5, 2) := by decide +kernel
theorem dX11_rests_25 : decode cX11_rests 25 = .ok (.iconst 1, 1) := by decide +kernel
theorem dX11_rests_26 : decode cX11_rests 26 = .ok (.aload_n 0, 1) := by decide +kernel
theorem dX11_rests_27 : decode cX11_rests 27 = .ok (.getfield 63, 3) := by decide +kernel
theorem dX11_rests_30 : decode cX11_rests 30 = .ok (.iconst 1, 1) := by decide +kernel
theorem dX11_rests_31 : decode cX11_rests 31 = .ok (.isub, 1) := by decide +kernel
theorem dX11_rests_32 : decode cX11_rests 32 = .ok (.ishl, 1) := by decide +kernel
theorem dX11_rests_33 : decode cX11_rests 33 = .ok (.if_icmp .ge 70, 3) := by decide +kernel
theorem dX11_rests_36 : decode cX11_rests 36 = .ok (.iload 5, 2) := by decide +kernel
theorem dX11_rests_38 : decode cX11_rests 38 = .ok (.invokestatic 144, 3) := by decide +kernel
theorem dX11_rests_41 : decode cX11_rests 41 = .ok (.iload_n 1, 1) := by decide +kernel
theorem dX11_rests_42 : decode cX11_rests 42 = .ok (.if_icmp .gt 55, 3) := by decide +kernel
theorem dX11_rests_45 : decode cX11_rests 45 = .ok (.aload_n 0, 1) := by decide +kernel
theorem dX11_rests_46 : decode cX11_rests 46 = .ok (.iload 5, 2) := by decide +kernel
theorem dX11_rests_48 : decode cX11_rests 48 = .ok (.invokevirtual 70, 3) := by decide +kernel
theorem dX11_rests_51 : decode cX11_rests 51 = .ok (.aload_n 0, 1) := by decide +kernel
theorem dX11_rests_52 : decode cX11_rests 52 = .ok (.invokevirtual 158, 3) := by decide +kernel
theorem dX11_rests_55 : decode cX11_rests 55 = .ok (.aload_n 0, 1) := by decide +kernel
theorem dX11_rests_56 : decode cX11_rests 56 = .ok (.invokevirtual 161, 3) := by decide +kernel
theorem dX11_rests_59 : decode cX11_rests 59 = .ok (.lstore 6, 2) := by decide +kernel
theorem dX11_rests_61 : decode cX11_rests 61 = .ok (.iload_n 2, 1) := by decide +kernel
theorem dX11_rests_62 : decode cX11_rests 62 = .ok (.ifCond .lt 29, 3) := by decide +kernel
theorem dX11_rests_65 : decode cX11_rests 65 = .ok (.lload 6, 2) := by decide +kernel
theorem dX11_rests_67 : decode cX11_rests 67 = .ok (.lload_n 3, 1) := by decide +kernel
theorem dX11_rests_68 : decode cX11_rests 68 = .ok (.lcmp, 1) := by decide +kernel
theorem dX11_rests_69 : decode cX11_rests 69 = .ok (.ifCond .gt 22, 3) := by decide +kernel
