theorem dX10_goYear_100 : decode cX10_goYear 100 = .ok (.invokevirtual 261, 3) := by decide +kernel
theorem dX10_goYear_103 : decode cX10_goYear 103 = .ok (.if_icmp .ge 65, 3) := by decide +kernel
theorem dX10_goYear_106 : decode cX10_goYear 106 = .ok (.aload_n 0, 1) := by decide +kernel
theorem dX10_goYear_107 : decode cX10_goYear 107 = .ok (.getfield 246, 3) := by decide +kernel
theorem dX10_goYear_110 : decode cX10_goYear 110 = .ok (.iconst 2, 1) := by decide +kernel
theorem dX10_goYear_111 : decode cX10_goYear 111 = .ok (.if_icmp .ne 14, 3) := by decide +kernel
theorem dX10_goYear_114 : decode cX10_goYear 114 = .ok (.aload_n 0, 1) := by decide +kernel
theorem dX10_goYear_115 : decode cX10_goYear 115 = .ok (.invokevirtual 261, 3) := by decide +kernel
theorem dX10_goYear_118 : decode cX10_goYear 118 = .ok (.iconst 1, 1) := by decide +kernel
theorem dX10_goYear_119 : decode cX10_goYear 119 = .ok (.isub, 1) := by decide +kernel
theorem dX10_goYear_120 : decode cX10_goYear 120 = .ok (.iload_n 2, 1) := by decide +kernel
theorem dX10_goYear_121 : decode cX10_goYear 121 = .ok (.isub, 1) := by decide +kernel
theorem dX10_goYear_122 : decode cX10_goYear 122 = .ok (.goto 4, 3) := by decide +kernel
theorem dX10_goYear_125 : decode cX10_goYear 125 = .ok (.iload_n 2, 1) := by decide +kernel
theorem dX10_goYear_126 : decode cX10_goYear 126 = .ok (.istore_n 3, 1) := by decide +kernel
theorem dX10_goYear_127 : decode cX10_goYear 127 = .ok (.aload_n 0, 1) := by decide +kernel
theorem dX10_goYear_128 : decode cX10_goYear 128 = .ok (.iload_n 3, 1) := by decide +kernel
theorem dX10_goYear_129 : decode cX10_goYear 129 = .ok (.iload_n 1, 1) := by decide +kernel
theorem dX10_goYear_130 : decode cX10_goYear 130 = .ok (.aload_n 0, 1) := by decide +kernel
theorem dX10_goYear_131 : decode cX10_goYear 131 = .ok (.getfield 246, 3) := by decide +kernel
theorem dX10_goYear_134 : decode cX10_goYear 134 = .ok (.iconst 1, 1) := by decide +kernel
theorem dX10_goYear_135 : decode cX10_goYear 135 = .ok (.if_icmp .ne 9, 3) := by decide +kernel
theorem dX10_goYear_138 : decode cX10_goYear 138 = .ok (.iload_n 3, 1) := by decide +kernel
theorem dX10_goYear_139 : decode cX10_goYear 139 = .ok (.iconst 1, 1) := by decide +kernel
theorem dX10_goYear_140 : decode cX10_goYear 140 = .ok (.iadd, 1) := by decide +kernel
theorem dX10_goYear_141 : decode cX10_goYear 141 = .ok (.goto 18, 3) := by decide +kernel
theorem dX10_goYear_144 : decode cX10_goYear 144 = .ok (.aload_n 0, 1) := by decide +kernel
theorem dX10_goYear_145 : decode cX10_goYear 145 = .ok (.getfield 246, 3) := by decide +kernel
theorem dX10_goYear_148 : decode cX10_goYear 148 = .ok (.iconst 2, 1) := by decide +kernel
theorem dX10_goYear_149 : decode cX10_goYear 149 = .ok (.if_icmp .ne 9, 3) := by decide +kernel
theorem dX10_goYear_152 : decode cX10_goYear 152 = .ok (.iload_n 3, 1) := by decide +kernel
theorem dX10_goYear_153 : decode cX10_goYear 153 = .ok (.iconst 1, 1) := by decide +kernel
theorem dX10_goYear_154 : decode cX10_goYear 154 = .ok (.isub, 1) := by decide +kernel
theorem dX10_goYear_155 : decode cX10_goYear 155 = .ok (.goto 4, 3) := by decide +kernel
theorem dX10_goYear_158 : decode cX10_goYear 158 = .ok (.iconst (-1), 1) := by decide +kernel
theorem dX10_goYear_159 : decode cX10_goYear 159 = .ok (.invokevirtual 267, 3) := by decide +kernel
theorem dX10_goYear_162 : decode cX10_goYear 162 = .ok (.iinc 2 1, 3) := by decide +kernel
theorem dX10_goYear_165 : decode cX10_goYear 165 = .ok (.goto (-67), 3) := by decide +kernel
theorem dX10_goYear_168 : decode cX10_goYear 168 = .ok (.iconst 0, 1) := by decide +kernel
theorem dX10_goYear_169 : decode cX10_goYear 169 = .ok (.istore_n 2, 1) := by decide +kernel
theorem dX10_goYear_170 : decode cX10_goYear 170 = .ok (.iload_n 2, 1) := by decide +kernel
theorem dX10_goYear_171 : decode cX10_goYear 171 = .ok (.aload_n 0, 1) := by decide +kernel
theorem dX10_goYear_172 : decode cX10_goYear 172 = .ok (.invokevirtual 261, 3) := by decide +kernel
theorem dX10_goYear_175 : decode cX10_goYear 175 = .ok (.if_icmp .ge 47, 3) := by decide +kernel
theorem dX10_goYear_178 : decode cX10_goYear 178 = .ok (.aload_n 0, 1) := by decide +kernel
theorem dX10_goYear_179 : decode cX10_goYear 179 = .ok (.getfield 52, 3) := by decide +kernel
theorem dX10_goYear_182 : decode cX10_goYear 182 = .ok (.iload_n 1, 1) := by decide +kernel
theorem dX10_goYear_183 : decode cX10_goYear 183 = .ok (.iaload, 1) := by decide +kernel
theorem dX10_goYear_184 : decode cX10_goYear 184 = .ok (.iload_n 2, 1) := by decide +kernel
theorem dX10_goYear_185 : decode cX10_goYear 185 = .ok (.invokestatic 258, 3) := by decide +kernel
theorem dX10_goYear_188 : decode cX10_goYear 188 = .ok (.iconst 1, 1) := by decide +kernel
theorem dX10_goYear_189 : decode cX10_goYear 189 = .ok (.if_icmp .ne 10, 3) := by decide +kernel
theorem dX10_goYear_192 : decode cX10_goYear 192 = .ok (.aload_n 0, 1) := by decide +kernel
theorem dX10_goYear_193 : decode cX10_goYear 193 = .ok (.getfield 67, 3) := by decide +kernel
theorem dX10_goYear_196 : decode cX10_goYear 196 = .ok (.iload_n 2, 1) := by decide +kernel
theorem dX10_goYear_197 : decode cX10_goYear 197 = .ok (.iconst 0, 1) := by decide +kernel
theorem dX10_goYear_198 : decode cX10_goYear 198 = .ok (.iastore, 1) := by decide +kernel
theorem dX10_goYear_199 : decode cX10_goYear 199 = .ok (.aload_n 0, 1) := by decide +kernel
theorem dX10_goYear_200 : decode cX10_goYear 200 = .ok (.getfield 55, 3) := by decide +kernel
theorem dX10_goYear_203 : decode cX10_goYear 203 = .ok (.bipush 6, 2) := by decide +kernel
theorem dX10_goYear_205 : decode cX10_goYear 205 = .ok (.iload_n 1, 1) := by decide +kernel
theorem dX10_goYear_206 : decode cX10_goYear 206 = .ok (.imul, 1) := by decide +kernel
theorem dX10_goYear_207 : decode cX10_goYear 207 = .ok (.iload_n 2, 1) := by decide +kernel
theorem dX10_goYear_208 : decode cX10_goYear 208 = .ok (.iadd, 1) := by decide +kernel
theorem dX10_goYear_209 : decode cX10_goYear 209 = .ok (.aload_n 0, 1) := by decide +kernel
theorem dX10_goYear_210 : decode cX10_goYear 210 = .ok (.getfield 67, 3) := by decide +kernel
theorem dX10_goYear_213 : decode cX10_goYear 213 = .ok (.iload_n 2, 1) := by decide +kernel
theorem dX10_goYear_214 : decode cX10_goYear 214 = .ok (.iaload, 1) := by decide +kernel
theorem dX10_goYear_215 : decode cX10_goYear 215 = .ok (.iastore, 1) := by decide +kernel
theorem dX10_goYear_216 : decode cX10_goYear 216 = .ok (.iinc 2 1, 3) := by decide +kernel
theorem dX10_goYear_219 : decode cX10_goYear 219 = .ok (.goto (-49), 3) := by decide +kernel
theorem dX10_goYear_222 : decode cX10_goYear 222 = .ok (.return_, 1) := by decide +kernel
theorem dX10_goAll_0 : decode cX10_goAll 0 = .ok (.iconst 0, 1) := by decide +kernel
theorem dX10_goAll_1 : decode cX10_goAll 1 = .ok (.istore_n 1, 1) := by decide +kernel
theorem dX10_goAll_2 : decode cX10_goAll 2 = .ok (.iload_n 1, 1) := by decide +kernel
theorem dX10_goAll_3 : decode cX10_goAll 3 = .ok (.bipush 6, 2) := by decide +kernel
theorem dX10_goAll_5 : decode cX10_goAll 5 = .ok (.if_icmp .ge 21, 3) := by decide +kernel
theorem dX10_goAll_8 : decode cX10_goAll 8 = .ok (.aload_n 0, 1) := by decide +kernel
theorem dX10_goAll_9 : decode cX10_goAll 9 = .ok (.getfield 67, 3) := by decide +kernel
theorem dX10_goAll_12 : decode cX10_goAll 12 = .ok (.iload_n 1, 1) := by decide +kernel
theorem dX10_goAll_13 : decode cX10_goAll 13 = .ok (.aload_n 0, 1) := by decide +kernel
theorem dX10_goAll_14 : decode cX10_goAll 14 = .ok (.getfield 34, 3) := by decide +kernel
theorem dX10_goAll_17 : decode cX10_goAll 17 = .ok (.iload_n 1, 1) := by decide +kernel
theorem dX10_goAll_18 : decode cX10_goAll 18 = .ok (.iaload, 1) := by decide +kernel
theorem dX10_goAll_19 : decode cX10_goAll 19 = .ok (.iastore, 1) := by decide +kernel
theorem dX10_goAll_20 : decode cX10_goAll 20 = .ok (.iinc 1 1, 3) := by decide +kernel
theorem dX10_goAll_23 : decode cX10_goAll 23 = .ok (.goto (-21), 3) := by decide +kernel
theorem dX10_goAll_26 : decode cX10_goAll 26 = .ok (.iconst 0, 1) := by decide +kernel
theorem dX10_goAll_27 : decode cX10_goAll 27 = .ok (.istore_n 1, 1) := by decide +kernel
theorem dX10_goAll_28 : decode cX10_goAll 28 = .ok (.iload_n 1, 1) := by decide +kernel
theorem dX10_goAll_29 : decode cX10_goAll 29 = .ok (.aload_n 0, 1) := by decide +kernel
theorem dX10_goAll_30 : decode cX10_goAll 30 = .ok (.invokevirtual 271, 3) := by decide +kernel
theorem dX10_goAll_33 : decode cX10_goAll 33 = .ok (.if_icmp .ge 14, 3) := by decide +kernel
theorem dX10_goAll_36 : decode cX10_goAll 36 = .ok (.aload_n 0, 1) := by decide +kernel
theorem dX10_goAll_37 : decode cX10_goAll 37 = .ok (.iload_n 1, 1) := by decide +kernel
theorem dX10_goAll_38 : decode cX10_goAll 38 = .ok (.invokevirtual 273, 3) := by decide +kernel
theorem dX10_goAll_41 : decode cX10_goAll 41 = .ok (.iinc 1 1, 3) := by decide +kernel
theorem dX10_goAll_44 : decode cX10_goAll 44 = .ok (.goto (-16), 3) := by decide +kernel
theorem dX10_goAll_47 : decode cX10_goAll 47 = .ok (.return_, 1) := by decide +kernel
theorem dX10_asksDukedom_0 : decode cX10_asksDukedom 0 = .ok (.aload_n 0, 1) := by decide +kernel
theorem dX10_asksDukedom_1 : decode cX10_asksDukedom 1 = .ok (.invokevirtual 276, 3) := by decide +kernel
theorem dX10_asksDukedom_4 : decode cX10_asksDukedom 4 = .ok (.aload_n 0, 1) := by decide +kernel
theorem dX10_asksDukedom_5 : decode cX10_asksDukedom 5 = .ok (.invokevirtual 279, 3) := by decide +kernel
theorem dX10_asksDukedom_8 : decode cX10_asksDukedom 8 = .ok (.aload_n 0, 1) := by decide +kernel
theorem dX10_asksDukedom_9 : decode cX10_asksDukedom 9 = .ok (.invokevirtual 282, 3) := by decide +kernel
theorem dX10_asksDukedom_12 : decode cX10_asksDukedom 12 = .ok (.ireturn, 1) := by decide +kernel
theorem dX10_asksYear_0 : decode cX10_asksYear 0 = .ok (.aload_n 0, 1) := by decide +kernel
theorem dX10_asksYear_1 : decode cX10_asksYear 1 = .ok (.invokevirtual 285, 3) := by decide +kernel
theorem dX10_asksYear_4 : decode cX10_asksYear 4 = .ok (.pop, 1) := by decide +kernel
theorem dX10_asksYear_5 : decode cX10_asksYear 5 = .ok (.aload_n 0, 1) := by decide +kernel
theorem dX10_asksYear_6 : decode cX10_asksYear 6 = .ok (.iload_n 1, 1) := by decide +kernel
theorem dX10_asksYear_7 : decode cX10_asksYear 7 = .ok (.i2l, 1) := by decide +kernel
theorem dX10_asksYear_8 : decode cX10_asksYear 8 = .ok (.invokevirtual 288, 3) := by decide +kernel
theorem dX10_asksYear_11 : decode cX10_asksYear 11 = .ok (.ireturn, 1) := by decide +kernel
theorem dX10_asksRank_0 : decode cX10_asksRank 0 = .ok (.aload_n 0, 1) := by decide +kernel
theorem dX10_asksRank_1 : decode cX10_asksRank 1 = .ok (.invokevirtual 285, 3) := by decide +kernel
theorem dX10_asksRank_4 : decode cX10_asksRank 4 = .ok (.pop, 1) := by decide +kernel
theorem dX10_asksRank_5 : decode cX10_asksRank 5 = .ok (.aload_n 0, 1) := by decide +kernel
theorem dX10_asksRank_6 : decode cX10_asksRank 6 = .ok (.iload_n 1, 1) := by decide +kernel
theorem dX10_asksRank_7 : decode cX10_asksRank 7 = .ok (.i2l, 1) := by decide +kernel
theorem dX10_asksRank_8 : decode cX10_asksRank 8 = .ok (.invokevirtual 230, 3) := by decide +kernel
theorem dX10_asksRank_11 : decode cX10_asksRank 11 = .ok (.ireturn, 1) := by decide +kernel
theorem dX10_rain_0 : decode cX10_rain 0 = .ok (.aload_n 0, 1) := by decide +kernel
theorem dX10_rain_1 : decode cX10_rain 1 = .ok (.invokevirtual 276, 3) := by decide +kernel
theorem dX10_rain_4 : decode cX10_rain 4 = .ok (.aload_n 0, 1) := by decide +kernel
theorem dX10_rain_5 : decode cX10_rain 5 = .ok (.iload_n 1, 1) := by decide +kernel
theorem dX10_rain_6 : decode cX10_rain 6 = .ok (.i2l, 1) := by decide +kernel
theorem dX10_rain_7 : decode cX10_rain 7 = .ok (.invokevirtual 288, 3) := by decide +kernel
theorem dX10_rain_10 : decode cX10_rain 10 = .ok (.ifCond .eq 12, 3) := by decide +kernel
theorem dX10_rain_13 : decode cX10_rain 13 = .ok (.aload_n 0, 1) := by decide +kernel
theorem dX10_rain_14 : decode cX10_rain 14 = .ok (.getfield 49, 3) := by decide +kernel
theorem dX10_rain_17 : decode cX10_rain 17 = .ok (.iload_n 1, 1) := by decide +kernel
theorem dX10_rain_18 : decode cX10_rain 18 = .ok (.iaload, 1) := by decide +kernel
theorem dX10_rain_19 : decode cX10_rain 19 = .ok (.goto 5, 3) := by decide +kernel
theorem dX10_rain_22 : decode cX10_rain 22 = .ok (.bipush (-2), 2) := by decide +kernel
theorem dX10_rain_24 : decode cX10_rain 24 = .ok (.ireturn, 1) := by decide +kernel
theorem dX10_frosts_0 : decode cX10_frosts 0 = .ok (.aload_n 0, 1) := by decide +kernel
theorem dX10_frosts_1 : decode cX10_frosts 1 = .ok (.invokevirtual 276, 3) := by decide +kernel
theorem dX10_frosts_4 : decode cX10_frosts 4 = .ok (.aload_n 0, 1) := by decide +kernel
theorem dX10_frosts_5 : decode cX10_frosts 5 = .ok (.invokevirtual 282, 3) := by decide +kernel
theorem dX10_frosts_8 : decode cX10_frosts 8 = .ok (.ifCond .eq 19, 3) := by decide +kernel
theorem dX10_frosts_11 : decode cX10_frosts 11 = .ok (.aload_n 0, 1) := by decide +kernel
theorem dX10_frosts_12 : decode cX10_frosts 12 = .ok (.getfield 252, 3) := by decide +kernel
theorem dX10_frosts_15 : decode cX10_frosts 15 = .ok (.iconst 1, 1) := by decide +kernel
theorem dX10_frosts_16 : decode cX10_frosts 16 = .ok (.aload_n 0, 1) := by decide +kernel
theorem dX10_frosts_17 : decode cX10_frosts 17 = .ok (.invokevirtual 271, 3) := by decide +kernel
theorem dX10_frosts_20 : decode cX10_frosts 20 = .ok (.ishl, 1) := by decide +kernel
theorem dX10_frosts_21 : decode cX10_frosts 21 = .ok (.iconst 1, 1) := by decide +kernel
theorem dX10_frosts_22 : decode cX10_frosts 22 = .ok (.isub, 1) := by decide +kernel
theorem dX10_frosts_23 : decode cX10_frosts 23 = .ok (.iand, 1) := by decide +kernel
theorem dX10_frosts_24 : decode cX10_frosts 24 = .ok (.goto 5, 3) := by decide +kernel
theorem dX10_frosts_27 : decode cX10_frosts 27 = .ok (.bipush (-2), 2) := by decide +kernel
theorem dX10_frosts_29 : decode cX10_frosts 29 = .ok (.ireturn, 1) := by decide +kernel
theorem dX10_water_0 : decode cX10_water 0 = .ok (.aload_n 0, 1) := by decide +kernel
theorem dX10_water_1 : decode cX10_water 1 = .ok (.iload_n 2, 1) := by decide +kernel
theorem dX10_water_2 : decode cX10_water 2 = .ok (.invokevirtual 291, 3) := by decide +kernel
theorem dX10_water_5 : decode cX10_water 5 = .ok (.ifCond .eq 21, 3) := by decide +kernel
theorem dX10_water_8 : decode cX10_water 8 = .ok (.aload_n 0, 1) := by decide +kernel
theorem dX10_water_9 : decode cX10_water 9 = .ok (.iload_n 1, 1) := by decide +kernel
theorem dX10_water_10 : decode cX10_water 10 = .ok (.i2l, 1) := by decide +kernel
theorem dX10_water_11 : decode cX10_water 11 = .ok (.invokevirtual 230, 3) := by decide +kernel
theorem dX10_water_14 : decode cX10_water 14 = .ok (.ifCond .eq 12, 3) := by decide +kernel
theorem dX10_water_17 : decode cX10_water 17 = .ok (.aload_n 0, 1) := by decide +kernel
theorem dX10_water_18 : decode cX10_water 18 = .ok (.iload_n 1, 1) := by decide +kernel
theorem dX10_water_19 : decode cX10_water 19 = .ok (.iload_n 2, 1) := by decide +kernel
theorem dX10_water_20 : decode cX10_water 20 = .ok (.invokevirtual 294, 3) := by decide +kernel
theorem dX10_water_23 : decode cX10_water 23 = .ok (.goto 5, 3) := by decide +kernel
theorem dX10_water_26 : decode cX10_water 26 = .ok (.bipush (-2), 2) := by decide +kernel
theorem dX10_water_28 : decode cX10_water 28 = .ok (.ireturn, 1) := by decide +kernel
theorem dX10_spills_0 : decode cX10_spills 0 = .ok (.aload_n 0, 1) := by decide +kernel
theorem dX10_spills_1 : decode cX10_spills 1 = .ok (.iload_n 2, 1) := by decide +kernel
theorem dX10_spills_2 : decode cX10_spills 2 = .ok (.invokevirtual 291, 3) := by decide +kernel
theorem dX10_spills_5 : decode cX10_spills 5 = .ok (.ifCond .eq 26, 3) := by decide +kernel
theorem dX10_spills_8 : decode cX10_spills 8 = .ok (.aload_n 0, 1) := by decide +kernel
theorem dX10_spills_9 : decode cX10_spills 9 = .ok (.iload_n 1, 1) := by decide +kernel
theorem dX10_spills_10 : decode cX10_spills 10 = .ok (.i2l, 1) := by decide +kernel
theorem dX10_spills_11 : decode cX10_spills 11 = .ok (.invokevirtual 230, 3) := by decide +kernel
theorem dX10_spills_14 : decode cX10_spills 14 = .ok (.ifCond .eq 17, 3) := by decide +kernel
theorem dX10_spills_17 : decode cX10_spills 17 = .ok (.aload_n 0, 1) := by decide +kernel
theorem dX10_spills_18 : decode cX10_spills 18 = .ok (.getfield 58, 3) := by decide +kernel
theorem dX10_spills_21 : decode cX10_spills 21 = .ok (.bipush 6, 2) := by decide +kernel
theorem dX10_spills_23 : decode cX10_spills 23 = .ok (.iload_n 2, 1) := by decide +kernel
theorem dX10_spills_24 : decode cX10_spills 24 = .ok (.imul, 1) := by decide +kernel
theorem dX10_spills_25 : decode cX10_spills 25 = .ok (.iload_n 1, 1) := by decide +kernel
theorem dX10_spills_26 : decode cX10_spills 26 = .ok (.iadd, 1) := by decide +kernel
theorem dX10_spills_27 : decode cX10_spills 27 = .ok (.iaload, 1) := by decide +kernel
theorem dX10_spills_28 : decode cX10_spills 28 = .ok (.goto 5, 3) := by decide +kernel
theorem dX10_spills_31 : decode cX10_spills 31 = .ok (.bipush (-2), 2) := by decide +kernel
theorem dX10_spills_33 : decode cX10_spills 33 = .ok (.ireturn, 1) := by decide +kernel
theorem dX10_lost_0 : decode cX10_lost 0 = .ok (.aload_n 0, 1) := by decide +kernel
theorem dX10_lost_1 : decode cX10_lost 1 = .ok (.iload_n 1, 1) := by decide +kernel
theorem dX10_lost_2 : decode cX10_lost 2 = .ok (.invokevirtual 291, 3) := by decide +kernel
theorem dX10_lost_5 : decode cX10_lost 5 = .ok (.ifCond .eq 12, 3) := by decide +kernel
theorem dX10_lost_8 : decode cX10_lost 8 = .ok (.aload_n 0, 1) := by decide +kernel
theorem dX10_lost_9 : decode cX10_lost 9 = .ok (.getfield 64, 3) := by decide +kernel
theorem dX10_lost_12 : decode cX10_lost 12 = .ok (.iload_n 1, 1) := by decide +kernel
theorem dX10_lost_13 : decode cX10_lost 13 = .ok (.iaload, 1) := by decide +kernel
theorem dX10_lost_14 : decode cX10_lost 14 = .ok (.goto 5, 3) := by decide +kernel
theorem dX10_lost_17 : decode cX10_lost 17 = .ok (.bipush (-2), 2) := by decide +kernel
theorem dX10_lost_19 : decode cX10_lost 19 = .ok (.ireturn, 1) := by decide +kernel
theorem dX10_drained_0 : decode cX10_drained 0 = .ok (.aload_n 0, 1) := by decide +kernel
theorem dX10_drained_1 : decode cX10_drained 1 = .ok (.iload_n 2, 1) := by decide +kernel
theorem dX10_drained_2 : decode cX10_drained 2 = .ok (.invokevirtual 291, 3) := by decide +kernel
theorem dX10_drained_5 : decode cX10_drained 5 = .ok (.ifCond .eq 26, 3) := by decide +kernel
theorem dX10_drained_8 : decode cX10_drained 8 = .ok (.aload_n 0, 1) := by decide +kernel
theorem dX10_drained_9 : decode cX10_drained 9 = .ok (.iload_n 1, 1) := by decide +kernel
theorem dX10_drained_10 : decode cX10_drained 10 = .ok (.i2l, 1) := by decide +kernel
theorem dX10_drained_11 : decode cX10_drained 11 = .ok (.invokevirtual 230, 3) := by decide +kernel
theorem dX10_drained_14 : decode cX10_drained 14 = .ok (.ifCond .eq 17, 3) := by decide +kernel
theorem dX10_drained_17 : decode cX10_drained 17 = .ok (.aload_n 0, 1) := by decide +kernel
theorem dX10_drained_18 : decode cX10_drained 18 = .ok (.getfield 61, 3) := by decide +kernel
theorem dX10_drained_21 : decode cX10_drained 21 = .ok (.bipush 6, 2) := by decide +kernel
theorem dX10_drained_23 : decode cX10_drained 23 = .ok (.iload_n 2, 1) := by decide +kernel
theorem dX10_drained_24 : decode cX10_drained 24 = .ok (.imul, 1) := by decide +kernel
theorem dX10_drained_25 : decode cX10_drained 25 = .ok (.iload_n 1, 1) := by decide +kernel
theorem dX10_drained_26 : decode cX10_drained 26 = .ok (.iadd, 1) := by decide +kernel
theorem dX10_drained_27 : decode cX10_drained 27 = .ok (.iaload, 1) := by decide +kernel
theorem dX10_drained_28 : decode cX10_drained 28 = .ok (.goto 5, 3) := by decide +kernel
theorem dX10_drained_31 : decode cX10_drained 31 = .ok (.bipush (-2), 2) := by decide +kernel
theorem dX10_drained_33 : decode cX10_drained 33 = .ok (.ireturn, 1) := by decide +kernel
theorem dX10_all_0 : decode cX10_all 0 = .ok (.aload_n 0, 1) := by decide +kernel
theorem dX10_all_1 : decode cX10_all 1 = .ok (.iload_n 1, 1) := by decide +kernel
theorem dX10_all_2 : decode cX10_all 2 = .ok (.invokevirtual 291, 3) := by decide +kernel
theorem dX10_all_5 : decode cX10_all 5 = .ok (.ifCond .ne 6, 3) := by decide +kernel
theorem dX10_all_8 : decode cX10_all 8 = .ok (.bipush (-2), 2) := by decide +kernel
theorem dX10_all_10 : decode cX10_all 10 = .ok (.ireturn, 1) := by decide +kernel
theorem dX10_all_11 : decode cX10_all 11 = .ok (.iconst 0, 1) := by decide +kernel
theorem dX10_all_12 : decode cX10_all 12 = .ok (.istore_n 2, 1) := by decide +kernel
theorem dX10_all_13 : decode cX10_all 13 = .ok (.iconst 0, 1) := by decide +kernel
theorem dX10_all_14 : decode cX10_all 14 = .ok (.istore_n 3, 1) := by decide +kernel
theorem dX10_all_15 : decode cX10_all 15 = .ok (.iload_n 3, 1) := by decide +kernel
theorem dX10_all_16 : decode cX10_all 16 = .ok (.aload_n 0, 1) := by decide +kernel
theorem dX10_all_17 : decode cX10_all 17 = .ok (.invokevirtual 261, 3) := by decide +kernel
theorem dX10_all_20 : decode cX10_all 20 = .ok (.if_icmp .ge 18, 3) := by decide +kernel
theorem dX10_all_23 : decode cX10_all 23 = .ok (.iload_n 2, 1) := by decide +kernel
theorem dX10_all_24 : decode cX10_all 24 = .ok (.aload_n 0, 1) := by decide +kernel
theorem dX10_all_25 : decode cX10_all 25 = .ok (.iload_n 3, 1) := by decide +kernel
theorem dX10_all_26 : decode cX10_all 26 = .ok (.iload_n 1, 1) := by decide +kernel
theorem dX10_all_27 : decode cX10_all 27 = .ok (.invokevirtual 294, 3) := by decide +kernel
theorem dX10_all_30 : decode cX10_all 30 = .ok (.iadd, 1) := by decide +kernel
theorem dX10_all_31 : decode cX10_all 31 = .ok (.istore_n 2, 1) := by decide +kernel
theorem dX10_all_32 : decode cX10_all 32 = .ok (.iinc 3 1, 3) := by decide +kernel
theorem dX10_all_35 : decode cX10_all 35 = .ok (.goto (-20), 3) := by decide +kernel
theorem dX10_all_38 : decode cX10_all 38 = .ok (.iload_n 2, 1) := by decide +kernel
theorem dX10_all_39 : decode cX10_all 39 = .ok (.ireturn, 1) := by decide +kernel
theorem dX10_dry_0 : decode cX10_dry 0 = .ok (.aload_n 0, 1) := by decide +kernel
theorem dX10_dry_1 : decode cX10_dry 1 = .ok (.iload_n 1, 1) := by decide +kernel
theorem dX10_dry_2 : decode cX10_dry 2 = .ok (.invokevirtual 291, 3) := by decide +kernel
theorem dX10_dry_5 : decode cX10_dry 5 = .ok (.ifCond .ne 6, 3) := by decide +kernel
theorem dX10_dry_8 : decode cX10_dry 8 = .ok (.bipush (-2), 2) := by decide +kernel
theorem dX10_dry_10 : decode cX10_dry 10 = .ok (.ireturn, 1) := by decide +kernel
theorem dX10_dry_11 : decode cX10_dry 11 = .ok (.iconst 0, 1) := by decide +kernel
theorem dX10_dry_12 : decode cX10_dry 12 = .ok (.istore_n 2, 1) := by decide +kernel
theorem dX10_dry_13 : decode cX10_dry 13 = .ok (.iconst 0, 1) := by decide +kernel
theorem dX10_dry_14 : decode cX10_dry 14 = .ok (.istore_n 3, 1) := by decide +kernel
theorem dX10_dry_15 : decode cX10_dry 15 = .ok (.iload_n 3, 1) := by decide +kernel
theorem dX10_dry_16 : decode cX10_dry 16 = .ok (.aload_n 0, 1) := by decide +kernel
theorem dX10_dry_17 : decode cX10_dry 17 = .ok (.invokevirtual 261, 3) := by decide +kernel
theorem dX10_dry_20 : decode cX10_dry 20 = .ok (.if_icmp .ge 28, 3) := by decide +kernel
theorem dX10_dry_23 : decode cX10_dry 23 = .ok (.iload_n 2, 1) := by decide +kernel
theorem dX10_dry_24 : decode cX10_dry 24 = .ok (.aload_n 0, 1) := by decide +kernel
theorem dX10_dry_25 : decode cX10_dry 25 = .ok (.iload_n 3, 1) := by decide +kernel
theorem dX10_dry_26 : decode cX10_dry 26 = .ok (.iload_n 1, 1) := by decide +kernel
theorem dX10_dry_27 : decode cX10_dry 27 = .ok (.invokevirtual 294, 3) := by decide +kernel
theorem dX10_dry_30 : decode cX10_dry 30 = .ok (.ifCond .ne 9, 3) := by decide +kernel
theorem dX10_dry_33 : decode cX10_dry 33 = .ok (.iconst 1, 1) := by decide +kernel
theorem dX10_dry_34 : decode cX10_dry 34 = .ok (.iload_n 3, 1) := by decide +kernel
theorem dX10_dry_35 : decode cX10_dry 35 = .ok (.ishl, 1) := by decide +kernel
theorem dX10_dry_36 : decode cX10_dry 36 = .ok (.goto 4, 3) := by decide +kernel
theorem dX10_dry_39 : decode cX10_dry 39 = .ok (.iconst 0, 1) := by decide +kernel
theorem dX10_dry_40 : decode cX10_dry 40 = .ok (.ior, 1) := by decide +kernel
theorem dX10_dry_41 : decode cX10_dry 41 = .ok (.istore_n 2, 1) := by decide +kernel
theorem dX10_dry_42 : decode cX10_dry 42 = .ok (.iinc 3 1, 3) := by decide +kernel
theorem dX10_dry_45 : decode cX10_dry 45 = .ok (.goto (-30), 3) := by decide +kernel
theorem dX10_dry_48 : decode cX10_dry 48 = .ok (.iload_n 2, 1) := by decide +kernel
theorem dX10_dry_49 : decode cX10_dry 49 = .ok (.ireturn, 1) := by decide +kernel
theorem dX10_deepest_0 : decode cX10_deepest 0 = .ok (.aload_n 0, 1) := by decide +kernel
theorem dX10_deepest_1 : decode cX10_deepest 1 = .ok (.iload_n 1, 1) := by decide +kernel
theorem dX10_deepest_2 : decode cX10_deepest 2 = .ok (.invokevirtual 291, 3) := by decide +kernel
theorem dX10_deepest_5 : decode cX10_deepest 5 = .ok (.ifCond .ne 6, 3) := by decide +kernel
theorem dX10_deepest_8 : decode cX10_deepest 8 = .ok (.bipush (-2), 2) := by decide +kernel
theorem dX10_deepest_10 : decode cX10_deepest 10 = .ok (.ireturn, 1) := by decide +kernel
theorem dX10_deepest_11 : decode cX10_deepest 11 = .ok (.iconst (-1), 1) := by decide +kernel
theorem dX10_deepest_12 : decode cX10_deepest 12 = .ok (.istore_n 2, 1) := by decide +kernel
theorem dX10_deepest_13 : decode cX10_deepest 13 = .ok (.iconst 0, 1) := by decide +kernel
theorem dX10_deepest_14 : decode cX10_deepest 14 = .ok (.istore_n 3, 1) := by decide +kernel
theorem dX10_deepest_15 : decode cX10_deepest 15 = .ok (.iload_n 3, 1) := by decide +kernel
theorem dX10_deepest_16 : decode cX10_deepest 16 = .ok (.aload_n 0, 1) := by decide +kernel
theorem dX10_deepest_17 : decode cX10_deepest 17 = .ok (.invokevirtual 261, 3) := by decide +kernel
theorem dX10_deepest_20 : decode cX10_deepest 20 = .ok (.if_icmp .ge 31, 3) := by decide +kernel
theorem dX10_deepest_23 : decode cX10_deepest 23 = .ok (.iload_n 2, 1) := by decide +kernel
theorem dX10_deepest_24 : decode cX10_deepest 24 = .ok (.iconst (-1), 1) := by decide +kernel
theorem dX10_deepest_25 : decode cX10_deepest 25 = .ok (.if_icmp .eq 18, 3) := by decide +kernel
theorem dX10_deepest_28 : decode cX10_deepest 28 = .ok (.aload_n 0, 1) := by decide +kernel
theorem dX10_deepest_29 : decode cX10_deepest 29 = .ok (.iload_n 3, 1) := by decide +kernel
theorem dX10_deepest_30 : decode cX10_deepest 30 = .ok (.iload_n 1, 1) := by decide +kernel
theorem dX10_deepest_31 : decode cX10_deepest 31 = .ok (.invokevirtual 294, 3) := by decide +kernel
theorem dX10_deepest_34 : decode cX10_deepest 34 = .ok (.aload_n 0, 1) := by decide +kernel
theorem dX10_deepest_35 : decode cX10_deepest 35 = .ok (.iload_n 2, 1) := by decide +kernel
theorem dX10_deepest_36 : decode cX10_deepest 36 = .ok (.iload_n 1, 1) := by decide +kernel
theorem dX10_deepest_37 : decode cX10_deepest 37 = .ok (.invokevirtual 294, 3) := by decide +kernel
theorem dX10_deepest_40 : decode cX10_deepest 40 = .ok (.if_icmp .le 5, 3) := by decide +kernel
theorem dX10_deepest_43 : decode cX10_deepest 43 = .ok (.iload_n 3, 1) := by decide +kernel
theorem dX10_deepest_44 : decode cX10_deepest 44 = .ok (.istore_n 2, 1) := by decide +kernel
theorem dX10_deepest_45 : decode cX10_deepest 45 = .ok (.iinc 3 1, 3) := by decide +kernel
theorem dX10_deepest_48 : decode cX10_deepest 48 = .ok (.goto (-33), 3) := by decide +kernel
theorem dX10_deepest_51 : decode cX10_deepest 51 = .ok (.iload_n 2, 1) := by decide +kernel
theorem dX10_deepest_52 : decode cX10_deepest 52 = .ok (.ireturn, 1) := by decide +kernel
theorem dX10_most_0 : decode cX10_most 0 = .ok (.aload_n 0, 1) := by decide +kernel
theorem dX10_most_1 : decode cX10_most 1 = .ok (.iload_n 1, 1) := by decide +kernel
theorem dX10_most_2 : decode cX10_most 2 = .ok (.invokevirtual 297, 3) := by decide +kernel
theorem dX10_most_5 : decode cX10_most 5 = .ok (.ifCond .ne 6, 3) := by decide +kernel
theorem dX10_most_8 : decode cX10_most 8 = .ok (.bipush (-2), 2) := by decide +kernel
theorem dX10_most_10 : decode cX10_most 10 = .ok (.ireturn, 1) := by decide +kernel
theorem dX10_most_11 : decode cX10_most 11 = .ok (.iconst 0, 1) := by decide +kernel
theorem dX10_most_12 : decode cX10_most 12 = .ok (.istore_n 2, 1) := by decide +kernel
theorem dX10_most_13 : decode cX10_most 13 = .ok (.iconst 0, 1) := by decide +kernel
theorem dX10_most_14 : decode cX10_most 14 = .ok (.istore_n 3, 1) := by decide +kernel
theorem dX10_most_15 : decode cX10_most 15 = .ok (.iload_n 3, 1) := by decide +kernel
theorem dX10_most_16 : decode cX10_most 16 = .ok (.aload_n 0, 1) := by decide +kernel
theorem dX10_most_17 : decode cX10_most 17 = .ok (.invokevirtual 271, 3) := by decide +kernel
theorem dX10_most_20 : decode cX10_most 20 = .ok (.if_icmp .ge 20, 3) := by decide +kernel
theorem dX10_most_23 : decode cX10_most 23 = .ok (.iload_n 2, 1) := by decide +kernel
theorem dX10_most_24 : decode cX10_most 24 = .ok (.aload_n 0, 1) := by decide +kernel
theorem dX10_most_25 : decode cX10_most 25 = .ok (.iload_n 1, 1) := by decide +kernel
theorem dX10_most_26 : decode cX10_most 26 = .ok (.iload_n 3, 1) := by decide +kernel
theorem dX10_most_27 : decode cX10_most 27 = .ok (.invokevirtual 294, 3) := by decide +kernel
theorem dX10_most_30 : decode cX10_most 30 = .ok (.invokestatic 255, 3) := by decide +kernel
theorem dX10_most_33 : decode cX10_most 33 = .ok (.istore_n 2, 1) := by decide +kernel
theorem dX10_most_34 : decode cX10_most 34 = .ok (.iinc 3 1, 3) := by decide +kernel
theorem dX10_most_37 : decode cX10_most 37 = .ok (.goto (-22), 3) := by decide +kernel
theorem dX10_most_40 : decode cX10_most 40 = .ok (.iload_n 2, 1) := by decide +kernel
theorem dX10_most_41 : decode cX10_most 41 = .ok (.ireturn, 1) := by decide +kernel
theorem dX10_dries_0 : decode cX10_dries 0 = .ok (.aload_n 0, 1) := by decide +kernel
theorem dX10_dries_1 : decode cX10_dries 1 = .ok (.iload_n 1, 1) := by decide +kernel
theorem dX10_dries_2 : decode cX10_dries 2 = .ok (.invokevirtual 297, 3) := by decide +kernel
theorem dX10_dries_5 : decode cX10_dries 5 = .ok (.ifCond .ne 6, 3) := by decide +kernel
theorem dX10_dries_8 : decode cX10_dries 8 = .ok (.bipush (-2), 2) := by decide +kernel
theorem dX10_dries_10 : decode cX10_dries 10 = .ok (.ireturn, 1) := by decide +kernel
theorem dX10_dries_11 : decode cX10_dries 11 = .ok (.iconst 0, 1) := by decide +kernel
theorem dX10_dries_12 : decode cX10_dries 12 = .ok (.istore_n 2, 1) := by decide +kernel
theorem dX10_dries_13 : decode cX10_dries 13 = .ok (.iload_n 2, 1) := by decide +kernel
theorem dX10_dries_14 : decode cX10_dries 14 = .ok (.aload_n 0, 1) := by decide +kernel
theorem dX10_dries_15 : decode cX10_dries 15 = .ok (.invokevirtual 271, 3) := by decide +kernel
theorem dX10_dries_18 : decode cX10_dries 18 = .ok (.if_icmp .ge 20, 3) := by decide +kernel
theorem dX10_dries_21 : decode cX10_dries 21 = .ok (.aload_n 0, 1) := by decide +kernel
theorem dX10_dries_22 : decode cX10_dries 22 = .ok (.iload_n 1, 1) := by decide +kernel
theorem dX10_dries_23 : decode cX10_dries 23 = .ok (.iload_n 2, 1) := by decide +kernel
theorem dX10_dries_24 : decode cX10_dries 24 = .ok (.invokevirtual 294, 3) := by decide +kernel
theorem dX10_dries_27 : decode cX10_dries 27 = .ok (.ifCond .ne 5, 3) := by decide +kernel
theorem dX10_dries_30 : decode cX10_dries 30 = .ok (.iload_n 2, 1) := by decide +kernel
theorem dX10_dries_31 : decode cX10_dries 31 = .ok (.ireturn, 1) := by decide +kernel
theorem dX10_dries_32 : decode cX10_dries 32 = .ok (.iinc 2 1, 3) := by decide +kernel
theorem dX10_dries_35 : decode cX10_dries 35 = .ok (.goto (-22), 3) := by decide +kernel
theorem dX10_dries_38 : decode cX10_dries 38 = .ok (.iconst (-1), 1) := by decide +kernel
theorem dX10_dries_39 : decode cX10_dries 39 = .ok (.ireturn, 1) := by decide +kernel
theorem dX10_wet_0 : decode cX10_wet 0 = .ok (.aload_n 0, 1) := by decide +kernel
theorem dX10_wet_1 : decode cX10_wet 1 = .ok (.iload_n 1, 1) := by decide +kernel
theorem dX10_wet_2 : decode cX10_wet 2 = .ok (.invokevirtual 297, 3) := by decide +kernel
theorem dX10_wet_5 : decode cX10_wet 5 = .ok (.ifCond .ne 6, 3) := by decide +kernel
theorem dX10_wet_8 : decode cX10_wet 8 = .ok (.bipush (-2), 2) := by decide +kernel
theorem dX10_wet_10 : decode cX10_wet 10 = .ok (.ireturn, 1) := by decide +kernel
theorem dX10_wet_11 : decode cX10_wet 11 = .ok (.iconst 0, 1) := by decide +kernel
theorem dX10_wet_12 : decode cX10_wet 12 = .ok (.istore_n 2, 1) := by decide +kernel
theorem dX10_wet_13 : decode cX10_wet 13 = .ok (.iconst 0, 1) := by decide +kernel
theorem dX10_wet_14 : decode cX10_wet 14 = .ok (.istore_n 3, 1) := by decide +kernel
theorem dX10_wet_15 : decode cX10_wet 15 = .ok (.iload_n 3, 1) := by decide +kernel
theorem dX10_wet_16 : decode cX10_wet 16 = .ok (.aload_n 0, 1) := by decide +kernel
theorem dX10_wet_17 : decode cX10_wet 17 = .ok (.invokevirtual 271, 3) := by decide +kernel
theorem dX10_wet_20 : decode cX10_wet 20 = .ok (.if_icmp .ge 26, 3) := by decide +kernel
theorem dX10_wet_23 : decode cX10_wet 23 = .ok (.iload_n 2, 1) := by decide +kernel
theorem dX10_wet_24 : decode cX10_wet 24 = .ok (.aload_n 0, 1) := by decide +kernel
theorem dX10_wet_25 : decode cX10_wet 25 = .ok (.iload_n 1, 1) := by decide +kernel
theorem dX10_wet_26 : decode cX10_wet 26 = .ok (.iload_n 3, 1) := by decide +kernel
theorem dX10_wet_27 : decode cX10_wet 27 = .ok (.invokevirtual 294, 3) := by decide +kernel
theorem dX10_wet_30 : decode cX10_wet 30 = .ok (.ifCond .le 7, 3) := by decide +kernel
theorem dX10_wet_33 : decode cX10_wet 33 = .ok (.iconst 1, 1) := by decide +kernel
theorem dX10_wet_34 : decode cX10_wet 34 = .ok (.goto 4, 3) := by decide +kernel
theorem dX10_wet_37 : decode cX10_wet 37 = .ok (.iconst 0, 1) := by decide +kernel
theorem dX10_wet_38 : decode cX10_wet 38 = .ok (.iadd, 1) := by decide +kernel
theorem dX10_wet_39 : decode cX10_wet 39 = .ok (.istore_n 2, 1) := by decide +kernel
theorem dX10_wet_40 : decode cX10_wet 40 = .ok (.iinc 3 1, 3) := by decide +kernel
theorem dX10_wet_43 : decode cX10_wet 43 = .ok (.goto (-28), 3) := by decide +kernel
theorem dX10_wet_46 : decode cX10_wet 46 = .ok (.iload_n 2, 1) := by decide +kernel
theorem dX10_wet_47 : decode cX10_wet 47 = .ok (.ireturn, 1) := by decide +kernel
theorem dX10_flood_0 : decode cX10_flood 0 = .ok (.aload_n 0, 1) := by decide +kernel
theorem dX10_flood_1 : decode cX10_flood 1 = .ok (.invokevirtual 285, 3) := by decide +kernel
theorem dX10_flood_4 : decode cX10_flood 4 = .ok (.ifCond .ne 6, 3) := by decide +kernel
theorem dX10_flood_7 : decode cX10_flood 7 = .ok (.bipush (-2), 2) := by decide +kernel
theorem dX10_flood_9 : decode cX10_flood 9 = .ok (.ireturn, 1) := by decide +kernel
theorem dX10_flood_10 : decode cX10_flood 10 = .ok (.iconst (-1), 1) := by decide +kernel
theorem dX10_flood_11 : decode cX10_flood 11 = .ok (.istore_n 1, 1) := by decide +kernel
theorem dX10_flood_12 : decode cX10_flood 12 = .ok (.iconst 0, 1) := by decide +kernel
theorem dX10_flood_13 : decode cX10_flood 13 = .ok (.istore_n 2, 1) := by decide +kernel
theorem dX10_flood_14 : decode cX10_flood 14 = .ok (.iload_n 2, 1) := by decide +kernel
theorem dX10_flood_15 : decode cX10_flood 15 = .ok (.aload_n 0, 1) := by decide +kernel
theorem dX10_flood_16 : decode cX10_flood 16 = .ok (.invokevirtual 271, 3) := by decide +kernel
theorem dX10_flood_19 : decode cX10_flood 19 = .ok (.if_icmp .ge 35, 3) := by decide +kernel
theorem dX10_flood_22 : decode cX10_flood 22 = .ok (.aload_n 0, 1) := by decide +kernel
theorem dX10_flood_23 : decode cX10_flood 23 = .ok (.getfield 64, 3) := by decide +kernel
theorem dX10_flood_26 : decode cX10_flood 26 = .ok (.iload_n 2, 1) := by decide +kernel
theorem dX10_flood_27 : decode cX10_flood 27 = .ok (.iaload, 1) := by decide +kernel
theorem dX10_flood_28 : decode cX10_flood 28 = .ok (.iload_n 1, 1) := by decide +kernel
theorem dX10_flood_29 : decode cX10_flood 29 = .ok (.iconst (-1), 1) := by decide +kernel
theorem dX10_flood_30 : decode cX10_flood 30 = .ok (.if_icmp .ne 7, 3) := by decide +kernel
theorem dX10_flood_33 : decode cX10_flood 33 = .ok (.iconst 0, 1) := by decide +kernel
theorem dX10_flood_34 : decode cX10_flood 34 = .ok (.goto 9, 3) := by decide +kernel
theorem dX10_flood_37 : decode cX10_flood 37 = .ok (.aload_n 0, 1) := by decide +kernel
theorem dX10_flood_38 : decode cX10_flood 38 = .ok (.getfield 64, 3) := by decide +kernel
theorem dX10_flood_41 : decode cX10_flood 41 = .ok (.iload_n 1, 1) := by decide +kernel
theorem dX10_flood_42 : decode cX10_flood 42 = .ok (.iaload, 1) := by decide +kernel
theorem dX10_flood_43 : decode cX10_flood 43 = .ok (.if_icmp .le 5, 3) := by decide +kernel
theorem dX10_flood_46 : decode cX10_flood 46 = .ok (.iload_n 2, 1) := by decide +kernel
theorem dX10_flood_47 : decode cX10_flood 47 = .ok (.istore_n 1, 1) := by decide +kernel
theorem dX10_flood_48 : decode cX10_flood 48 = .ok (.iinc 2 1, 3) := by decide +kernel
theorem dX10_flood_51 : decode cX10_flood 51 = .ok (.goto (-37), 3) := by decide +kernel
theorem dX10_flood_54 : decode cX10_flood 54 = .ok (.iload_n 1, 1) := by decide +kernel
theorem dX10_flood_55 : decode cX10_flood 55 = .ok (.ireturn, 1) := by decide +kernel
theorem dX10_rains_0 : decode cX10_rains 0 = .ok (.aload_n 0, 1) := by decide +kernel
theorem dX10_rains_1 : decode cX10_rains 1 = .ok (.invokevirtual 276, 3) := by decide +kernel
theorem dX10_rains_4 : decode cX10_rains 4 = .ok (.aload_n 0, 1) := by decide +kernel
theorem dX10_rains_5 : decode cX10_rains 5 = .ok (.invokevirtual 282, 3) := by decide +kernel
theorem dX10_rains_8 : decode cX10_rains 8 = .ok (.ifCond .ne 6, 3) := by decide +kernel
theorem dX10_rains_11 : decode cX10_rains 11 = .ok (.bipush (-2), 2) := by decide +kernel
theorem dX10_rains_13 : decode cX10_rains 13 = .ok (.ireturn, 1) := by decide +kernel
theorem dX10_rains_14 : decode cX10_rains 14 = .ok (.iconst 0, 1) := by decide +kernel
theorem dX10_rains_15 : decode cX10_rains 15 = .ok (.istore_n 1, 1) := by decide +kernel
theorem dX10_rains_16 : decode cX10_rains 16 = .ok (.iconst 0, 1) := by decide +kernel
theorem dX10_rains_17 : decode cX10_rains 17 = .ok (.istore_n 2, 1) := by decide +kernel
theorem dX10_rains_18 : decode cX10_rains 18 = .ok (.iload_n 2, 1) := by decide +kernel
theorem dX10_rains_19 : decode cX10_rains 19 = .ok (.aload_n 0, 1) := by decide +kernel
theorem dX10_rains_20 : decode cX10_rains 20 = .ok (.invokevirtual 271, 3) := by decide +kernel
theorem dX10_rains_23 : decode cX10_rains 23 = .ok (.if_icmp .ge 18, 3) := by decide +kernel
theorem dX10_rains_26 : decode cX10_rains 26 = .ok (.iload_n 1, 1) := by decide +kernel
theorem dX10_rains_27 : decode cX10_rains 27 = .ok (.aload_n 0, 1) := by decide +kernel
theorem dX10_rains_28 : decode cX10_rains 28 = .ok (.getfield 49, 3) := by decide +kernel
theorem dX10_rains_31 : decode cX10_rains 31 = .ok (.iload_n 2, 1) := by decide +kernel
theorem dX10_rains_32 : decode cX10_rains 32 = .ok (.iaload, 1) := by decide +kernel
theorem dX10_rains_33 : decode cX10_rains 33 = .ok (.iadd, 1) := by decide +kernel
theorem dX10_rains_34 : decode cX10_rains 34 = .ok (.istore_n 1, 1) := by decide +kernel
theorem dX10_rains_35 : decode cX10_rains 35 = .ok (.iinc 2 1, 3) := by decide +kernel
theorem dX10_rains_38 : decode cX10_rains 38 = .ok (.goto (-20), 3) := by decide +kernel
theorem dX10_rains_41 : decode cX10_rains 41 = .ok (.iload_n 1, 1) := by decide +kernel
theorem dX10_rains_42 : decode cX10_rains 42 = .ok (.ireturn, 1) := by decide +kernel
theorem dX10_hasPlank_0 : decode cX10_hasPlank 0 = .ok (.aload_n 0, 1) := by decide +kernel
theorem dX10_hasPlank_1 : decode cX10_hasPlank 1 = .ok (.getfield 46, 3) := by decide +kernel
theorem dX10_hasPlank_4 : decode cX10_hasPlank 4 = .ok (.iload_n 1, 1) := by decide +kernel
theorem dX10_hasPlank_5 : decode cX10_hasPlank 5 = .ok (.iaload, 1) := by decide +kernel
theorem dX10_hasPlank_6 : decode cX10_hasPlank 6 = .ok (.aload_n 0, 1) := by decide +kernel
theorem dX10_hasPlank_7 : decode cX10_hasPlank 7 = .ok (.iload_n 1, 1) := by decide +kernel
theorem dX10_hasPlank_8 : decode cX10_hasPlank 8 = .ok (.iconst 0, 1) := by decide +kernel
theorem dX10_hasPlank_9 : decode cX10_hasPlank 9 = .ok (.invokevirtual 236, 3) := by decide +kernel
theorem dX10_hasPlank_12 : decode cX10_hasPlank 12 = .ok (.if_icmp .lt 7, 3) := by decide +kernel
theorem dX10_hasPlank_15 : decode cX10_hasPlank 15 = .ok (.iconst 1, 1) := by decide +kernel
theorem dX10_hasPlank_16 : decode cX10_hasPlank 16 = .ok (.goto 4, 3) := by decide +kernel
theorem dX10_hasPlank_19 : decode cX10_hasPlank 19 = .ok (.iconst 0, 1) := by decide +kernel
theorem dX10_hasPlank_20 : decode cX10_hasPlank 20 = .ok (.istore_n 2, 1) := by decide +kernel
theorem dX10_hasPlank_21 : decode cX10_hasPlank 21 = .ok (.iconst 0, 1) := by decide +kernel
theorem dX10_hasPlank_22 : decode cX10_hasPlank 22 = .ok (.istore_n 3, 1) := by decide +kernel
theorem dX10_hasPlank_23 : decode cX10_hasPlank 23 = .ok (.iload_n 3, 1) := by decide +kernel
theorem dX10_hasPlank_24 : decode cX10_hasPlank 24 = .ok (.aload_n 0, 1) := by decide +kernel
theorem dX10_hasPlank_25 : decode cX10_hasPlank 25 = .ok (.getfield 9, 3) := by decide +kernel
theorem dX10_hasPlank_28 : decode cX10_hasPlank 28 = .ok (.iconst 4, 1) := by decide +kernel
theorem dX10_hasPlank_29 : decode cX10_hasPlank 29 = .ok (.iaload, 1) := by decide +kernel
theorem dX10_hasPlank_30 : decode cX10_hasPlank 30 = .ok (.if_icmp .ge 49, 3) := by decide +kernel
theorem dX10_hasPlank_33 : decode cX10_hasPlank 33 = .ok (.iload_n 2, 1) := by decide +kernel
theorem dX10_hasPlank_34 : decode cX10_hasPlank 34 = .ok (.ifCond .ne 33, 3) := by decide +kernel
theorem dX10_hasPlank_37 : decode cX10_hasPlank 37 = .ok (.aload_n 0, 1) := by decide +kernel
theorem dX10_hasPlank_38 : decode cX10_hasPlank 38 = .ok (.getfield 43, 3) := by decide +kernel
theorem dX10_hasPlank_41 : decode cX10_hasPlank 41 = .ok (.iload_n 3, 1) := by decide +kernel
theorem dX10_hasPlank_42 : decode cX10_hasPlank 42 = .ok (.iaload, 1) := by decide +kernel
theorem dX10_hasPlank_43 : decode cX10_hasPlank 43 = .ok (.iload_n 1, 1) := by decide +kernel
theorem dX10_hasPlank_44 : decode cX10_hasPlank 44 = .ok (.if_icmp .ne 27, 3) := by decide +kernel
theorem dX10_hasPlank_47 : decode cX10_hasPlank 47 = .ok (.aload_n 0, 1) := by decide +kernel
theorem dX10_hasPlank_48 : decode cX10_hasPlank 48 = .ok (.getfield 9, 3) := by decide +kernel
theorem dX10_hasPlank_51 : decode cX10_hasPlank 51 = .ok (.bipush 34, 2) := by decide +kernel
theorem dX10_hasPlank_53 : decode cX10_hasPlank 53 = .ok (.iconst 2, 1) := by decide +kernel
theorem dX10_hasPlank_54 : decode cX10_hasPlank 54 = .ok (.iload_n 3, 1) := by decide +kernel
theorem dX10_hasPlank_55 : decode cX10_hasPlank 55 = .ok (.imul, 1) := by decide +kernel
theorem dX10_hasPlank_56 : decode cX10_hasPlank 56 = .ok (.iadd, 1) := by decide +kernel
theorem dX10_hasPlank_57 : decode cX10_hasPlank 57 = .ok (.iaload, 1) := by decide +kernel
theorem dX10_hasPlank_58 : decode cX10_hasPlank 58 = .ok (.aload_n 0, 1) := by decide +kernel
theorem dX10_hasPlank_59 : decode cX10_hasPlank 59 = .ok (.iload_n 1, 1) := by decide +kernel
theorem dX10_hasPlank_60 : decode cX10_hasPlank 60 = .ok (.iconst 0, 1) := by decide +kernel
theorem dX10_hasPlank_61 : decode cX10_hasPlank 61 = .ok (.invokevirtual 236, 3) := by decide +kernel
theorem dX10_hasPlank_64 : decode cX10_hasPlank 64 = .ok (.if_icmp .lt 7, 3) := by decide +kernel
theorem dX10_hasPlank_67 : decode cX10_hasPlank 67 = .ok (.iconst 1, 1) := by decide +kernel
theorem dX10_hasPlank_68 : decode cX10_hasPlank 68 = .ok (.goto 4, 3) := by decide +kernel
theorem dX10_hasPlank_71 : decode cX10_hasPlank 71 = .ok (.iconst 0, 1) := by decide +kernel
theorem dX10_hasPlank_72 : decode cX10_hasPlank 72 = .ok (.istore_n 2, 1) := by decide +kernel
theorem dX10_hasPlank_73 : decode cX10_hasPlank 73 = .ok (.iinc 3 1, 3) := by decide +kernel
theorem dX10_hasPlank_76 : decode cX10_hasPlank 76 = .ok (.goto (-53), 3) := by decide +kernel
theorem dX10_hasPlank_79 : decode cX10_hasPlank 79 = .ok (.iload_n 2, 1) := by decide +kernel
theorem dX10_hasPlank_80 : decode cX10_hasPlank 80 = .ok (.ireturn, 1) := by decide +kernel
theorem dX10_doesFord_0 : decode cX10_doesFord 0 = .ok (.aload_n 0, 1) := by decide +kernel
theorem dX10_doesFord_1 : decode cX10_doesFord 1 = .ok (.iload_n 3, 1) := by decide +kernel
theorem dX10_doesFord_2 : decode cX10_doesFord 2 = .ok (.invokevirtual 264, 3) := by decide +kernel
theorem dX10_doesFord_5 : decode cX10_doesFord 5 = .ok (.ifCond .ne 38, 3) := by decide +kernel
theorem dX10_doesFord_8 : decode cX10_doesFord 8 = .ok (.aload_n 0, 1) := by decide +kernel
theorem dX10_doesFord_9 : decode cX10_doesFord 9 = .ok (.iload_n 2, 1) := by decide +kernel
theorem dX10_doesFord_10 : decode cX10_doesFord 10 = .ok (.iload_n 3, 1) := by decide +kernel
theorem dX10_doesFord_11 : decode cX10_doesFord 11 = .ok (.invokevirtual 294, 3) := by decide +kernel
theorem dX10_doesFord_14 : decode cX10_doesFord 14 = .ok (.aload_n 0, 1) := by decide +kernel
theorem dX10_doesFord_15 : decode cX10_doesFord 15 = .ok (.getfield 40, 3) := by decide +kernel
theorem dX10_doesFord_18 : decode cX10_doesFord 18 = .ok (.iload_n 1, 1) := by decide +kernel
theorem dX10_doesFord_19 : decode cX10_doesFord 19 = .ok (.iaload, 1) := by decide +kernel
theorem dX10_doesFord_20 : decode cX10_doesFord 20 = .ok (.if_icmp .le 23, 3) := by decide +kernel
theorem dX10_doesFord_23 : decode cX10_doesFord 23 = .ok (.aload_n 0, 1) := by decide +kernel
theorem dX10_doesFord_24 : decode cX10_doesFord 24 = .ok (.getfield 249, 3) := by decide +kernel
theorem dX10_doesFord_27 : decode cX10_doesFord 27 = .ok (.iload_n 2, 1) := by decide +kernel
theorem dX10_doesFord_28 : decode cX10_doesFord 28 = .ok (.invokestatic 258, 3) := by decide +kernel
theorem dX10_doesFord_31 : decode cX10_doesFord 31 = .ok (.iconst 1, 1) := by decide +kernel
theorem dX10_doesFord_32 : decode cX10_doesFord 32 = .ok (.if_icmp .eq 11, 3) := by decide +kernel
theorem dX10_doesFord_35 : decode cX10_doesFord 35 = .ok (.aload_n 0, 1) := by decide +kernel
theorem dX10_doesFord_36 : decode cX10_doesFord 36 = .ok (.iload_n 2, 1) := by decide +kernel
theorem dX10_doesFord_37 : decode cX10_doesFord 37 = .ok (.invokevirtual 300, 3) := by decide +kernel
theorem dX10_doesFord_40 : decode cX10_doesFord 40 = .ok (.ifCond .eq 7, 3) := by decide +kernel
theorem dX10_doesFord_43 : decode cX10_doesFord 43 = .ok (.iconst 1, 1) := by decide +kernel
theorem dX10_doesFord_44 : decode cX10_doesFord 44 = .ok (.goto 4, 3) := by decide +kernel
theorem dX10_doesFord_47 : decode cX10_doesFord 47 = .ok (.iconst 0, 1) := by decide +kernel
theorem dX10_doesFord_48 : decode cX10_doesFord 48 = .ok (.ireturn, 1) := by decide +kernel
theorem dX10_doesCome_0 : decode cX10_doesCome 0 = .ok (.aload_n 0, 1) := by decide +kernel
theorem dX10_doesCome_1 : decode cX10_doesCome 1 = .ok (.iload_n 1, 1) := by decide +kernel
theorem dX10_doesCome_2 : decode cX10_doesCome 2 = .ok (.iload_n 1, 1) := by decide +kernel
theorem dX10_doesCome_3 : decode cX10_doesCome 3 = .ok (.iload_n 3, 1) := by decide +kernel
theorem dX10_doesCome_4 : decode cX10_doesCome 4 = .ok (.invokevirtual 303, 3) := by decide +kernel
theorem dX10_doesCome_7 : decode cX10_doesCome 7 = .ok (.ifCond .eq 17, 3) := by decide +kernel
theorem dX10_doesCome_10 : decode cX10_doesCome 10 = .ok (.aload_n 0, 1) := by decide +kernel
theorem dX10_doesCome_11 : decode cX10_doesCome 11 = .ok (.iload_n 1, 1) := by decide +kernel
theorem dX10_doesCome_12 : decode cX10_doesCome 12 = .ok (.iload_n 2, 1) := by decide +kernel
theorem dX10_doesCome_13 : decode cX10_doesCome 13 = .ok (.iload_n 3, 1) := by decide +kernel
theorem dX10_doesCome_14 : decode cX10_doesCome 14 = .ok (.invokevirtual 303, 3) := by decide +kernel
theorem dX10_doesCome_17 : decode cX10_doesCome 17 = .ok (.ifCond .eq 7, 3) := by decide +kernel
theorem dX10_doesCome_20 : decode cX10_doesCome 20 = .ok (.iconst 1, 1) := by decide +kernel
theorem dX10_doesCome_21 : decode cX10_doesCome 21 = .ok (.goto 4, 3) := by decide +kernel
theorem dX10_doesCome_24 : decode cX10_doesCome 24 = .ok (.iconst 0, 1) := by decide +kernel
theorem dX10_doesCome_25 : decode cX10_doesCome 25 = .ok (.ireturn, 1) := by decide +kernel
theorem dX10_over_0 : decode cX10_over 0 = .ok (.aload_n 0, 1) := by decide +kernel
theorem dX10_over_1 : decode cX10_over 1 = .ok (.iload_n 3, 1) := by decide +kernel
theorem dX10_over_2 : decode cX10_over 2 = .ok (.invokevirtual 291, 3) := by decide +kernel
theorem dX10_over_5 : decode cX10_over 5 = .ok (.ifCond .eq 39, 3) := by decide +kernel
theorem dX10_over_8 : decode cX10_over 8 = .ok (.aload_n 0, 1) := by decide +kernel
theorem dX10_over_9 : decode cX10_over 9 = .ok (.iload_n 1, 1) := by decide +kernel
theorem dX10_over_10 : decode cX10_over 10 = .ok (.i2l, 1) := by decide +kernel
theorem dX10_over_11 : decode cX10_over 11 = .ok (.invokevirtual 230, 3) := by decide +kernel
theorem dX10_over_14 : decode cX10_over 14 = .ok (.ifCond .eq 30, 3) := by decide +kernel
theorem dX10_over_17 : decode cX10_over 17 = .ok (.aload_n 0, 1) := by decide +kernel
theorem dX10_over_18 : decode cX10_over 18 = .ok (.iload_n 2, 1) := by decide +kernel
theorem dX10_over_19 : decode cX10_over 19 = .ok (.i2l, 1) := by decide +kernel
theorem dX10_over_20 : decode cX10_over 20 = .ok (.invokevirtual 230, 3) := by decide +kernel
theorem dX10_over_23 : decode cX10_over 23 = .ok (.ifCond .eq 21, 3) := by decide +kernel
theorem dX10_over_26 : decode cX10_over 26 = .ok (.aload_n 0, 1) := by decide +kernel
theorem dX10_over_27 : decode cX10_over 27 = .ok (.iload_n 1, 1) := by decide +kernel
theorem dX10_over_28 : decode cX10_over 28 = .ok (.iload_n 2, 1) := by decide +kernel
theorem dX10_over_29 : decode cX10_over 29 = .ok (.iload_n 3, 1) := by decide +kernel
theorem dX10_over_30 : decode cX10_over 30 = .ok (.invokevirtual 303, 3) := by decide +kernel
theorem dX10_over_33 : decode cX10_over 33 = .ok (.ifCond .eq 7, 3) := by decide +kernel
theorem dX10_over_36 : decode cX10_over 36 = .ok (.iconst 1, 1) := by decide +kernel
theorem dX10_over_37 : decode cX10_over 37 = .ok (.goto 9, 3) := by decide +kernel
theorem dX10_over_40 : decode cX10_over 40 = .ok (.iconst 0, 1) := by decide +kernel
theorem dX10_over_41 : decode cX10_over 41 = .ok (.goto 5, 3) := by decide +kernel
theorem dX10_over_44 : decode cX10_over 44 = .ok (.bipush (-2), 2) := by decide +kernel
theorem dX10_over_46 : decode cX10_over 46 = .ok (.ireturn, 1) := by decide +kernel
theorem dX10_comesOf_0 : decode cX10_comesOf 0 = .ok (.iconst 0, 1) := by decide +kernel
theorem dX10_comesOf_1 : decode cX10_comesOf 1 = .ok (.istore_n 3, 1) := by decide +kernel
theorem dX10_comesOf_2 : decode cX10_comesOf 2 = .ok (.iconst 0, 1) := by decide +kernel
theorem dX10_comesOf_3 : decode cX10_comesOf 3 = .ok (.istore 4, 2) := by decide +kernel
theorem dX10_comesOf_5 : decode cX10_comesOf 5 = .ok (.iload 4, 2) := by decide +kernel
theorem dX10_comesOf_7 : decode cX10_comesOf 7 = .ok (.aload_n 0, 1) := by decide +kernel
theorem dX10_comesOf_8 : decode cX10_comesOf 8 = .ok (.invokevirtual 261, 3) := by decide +kernel
theorem dX10_comesOf_11 : decode cX10_comesOf 11 = .ok (.if_icmp .ge 37, 3) := by decide +kernel
theorem dX10_comesOf_14 : decode cX10_comesOf 14 = .ok (.iload_n 3, 1) := by decide +kernel
theorem dX10_comesOf_15 : decode cX10_comesOf 15 = .ok (.iload_n 1, 1) := by decide +kernel
theorem dX10_comesOf_16 : decode cX10_comesOf 16 = .ok (.iload 4, 2) := by decide +kernel
theorem dX10_comesOf_18 : decode cX10_comesOf 18 = .ok (.if_icmp .eq 21, 3) := by decide +kernel
theorem dX10_comesOf_21 : decode cX10_comesOf 21 = .ok (.aload_n 0, 1) := by decide +kernel
theorem dX10_comesOf_22 : decode cX10_comesOf 22 = .ok (.iload_n 1, 1) := by decide +kernel
theorem dX10_comesOf_23 : decode cX10_comesOf 23 = .ok (.iload 4, 2) := by decide +kernel
theorem dX10_comesOf_25 : decode cX10_comesOf 25 = .ok (.iload_n 2, 1) := by decide +kernel
theorem dX10_comesOf_26 : decode cX10_comesOf 26 = .ok (.invokevirtual 307, 3) := by decide +kernel
theorem dX10_comesOf_29 : decode cX10_comesOf 29 = .ok (.ifCond .eq 10, 3) := by decide +kernel
theorem dX10_comesOf_32 : decode cX10_comesOf 32 = .ok (.iconst 1, 1) := by decide +kernel
theorem dX10_comesOf_33 : decode cX10_comesOf 33 = .ok (.iload 4, 2) := by decide +kernel
theorem dX10_comesOf_35 : decode cX10_comesOf 35 = .ok (.ishl, 1) := by decide +kernel
theorem dX10_comesOf_36 : decode cX10_comesOf 36 = .ok (.goto 4, 3) := by decide +kernel
theorem dX10_comesOf_39 : decode cX10_comesOf 39 = .ok (.iconst 0, 1) := by decide +kernel
theorem dX10_comesOf_40 : decode cX10_comesOf 40 = .ok (.ior, 1) := by decide +kernel
theorem dX10_comesOf_41 : decode cX10_comesOf 41 = .ok (.istore_n 3, 1) := by decide +kernel
theorem dX10_comesOf_42 : decode cX10_comesOf 42 = .ok (.iinc 4 1, 3) := by decide +kernel
theorem dX10_comesOf_45 : decode cX10_comesOf 45 = .ok (.goto (-40), 3) := by decide +kernel
theorem dX10_comesOf_48 : decode cX10_comesOf 48 = .ok (.iload_n 3, 1) := by decide +kernel
theorem dX10_comesOf_49 : decode cX10_comesOf 49 = .ok (.ireturn, 1) := by decide +kernel
theorem dX10_comes_0 : decode cX10_comes 0 = .ok (.aload_n 0, 1) := by decide +kernel
theorem dX10_comes_1 : decode cX10_comes 1 = .ok (.iload_n 2, 1) := by decide +kernel
theorem dX10_comes_2 : decode cX10_comes 2 = .ok (.invokevirtual 291, 3) := by decide +kernel
theorem dX10_comes_5 : decode cX10_comes 5 = .ok (.ifCond .eq 21, 3) := by decide +kernel
theorem dX10_comes_8 : decode cX10_comes 8 = .ok (.aload_n 0, 1) := by decide +kernel
theorem dX10_comes_9 : decode cX10_comes 9 = .ok (.iload_n 1, 1) := by decide +kernel
theorem dX10_comes_10 : decode cX10_comes 10 = .ok (.i2l, 1) := by decide +kernel
theorem dX10_comes_11 : decode cX10_comes 11 = .ok (.invokevirtual 230, 3) := by decide +kernel
theorem dX10_comes_14 : decode cX10_comes 14 = .ok (.ifCond .eq 12, 3) := by decide +kernel
theorem dX10_comes_17 : decode cX10_comes 17 = .ok (.aload_n 0, 1) := by decide +kernel
theorem dX10_comes_18 : decode cX10_comes 18 = .ok (.iload_n 1, 1) := by decide +kernel
theorem dX10_comes_19 : decode cX10_comes 19 = .ok (.iload_n 2, 1) := by decide +kernel
theorem dX10_comes_20 : decode cX10_comes 20 = .ok (.invokevirtual 310, 3) := by decide +kernel
theorem dX10_comes_23 : decode cX10_comes 23 = .ok (.goto 5, 3) := by decide +kernel
theorem dX10_comes_26 : decode cX10_comes 26 = .ok (.bipush (-2), 2) := by decide +kernel
theorem dX10_comes_28 : decode cX10_comes 28 = .ok (.ireturn, 1) := by decide +kernel
theorem dX10_guestsOf_0 : decode cX10_guestsOf 0 = .ok (.iconst 0, 1) := by decide +kernel
theorem dX10_guestsOf_1 : decode cX10_guestsOf 1 = .ok (.istore_n 3, 1) := by decide +kernel
theorem dX10_guestsOf_2 : decode cX10_guestsOf 2 = .ok (.iconst 0, 1) := by decide +kernel
theorem dX10_guestsOf_3 : decode cX10_guestsOf 3 = .ok (.istore 4, 2) := by decide +kernel
theorem dX10_guestsOf_5 : decode cX10_guestsOf 5 = .ok (.iload 4, 2) := by decide +kernel
theorem dX10_guestsOf_7 : decode cX10_guestsOf 7 = .ok (.aload_n 0, 1) := by decide +kernel
theorem dX10_guestsOf_8 : decode cX10_guestsOf 8 = .ok (.invokevirtual 261, 3) := by decide +kernel
theorem dX10_guestsOf_11 : decode cX10_guestsOf 11 = .ok (.if_icmp .ge 37, 3) := by decide +kernel
theorem dX10_guestsOf_14 : decode cX10_guestsOf 14 = .ok (.iload_n 3, 1) := by decide +kernel
theorem dX10_guestsOf_15 : decode cX10_guestsOf 15 = .ok (.iload 4, 2) := by decide +kernel
theorem dX10_guestsOf_17 : decode cX10_guestsOf 17 = .ok (.iload_n 1, 1) := by decide +kernel
theorem dX10_guestsOf_18 : decode cX10_guestsOf 18 = .ok (.if_icmp .eq 21, 3) := by decide +kernel
theorem dX10_guestsOf_21 : decode cX10_guestsOf 21 = .ok (.aload_n 0, 1) := by decide +kernel
theorem dX10_guestsOf_22 : decode cX10_guestsOf 22 = .ok (.iload 4, 2) := by decide +kernel
theorem dX10_guestsOf_24 : decode cX10_guestsOf 24 = .ok (.iload_n 1, 1) := by decide +kernel
theorem dX10_guestsOf_25 : decode cX10_guestsOf 25 = .ok (.iload_n 2, 1) := by decide +kernel
theorem dX10_guestsOf_26 : decode cX10_guestsOf 26 = .ok (.invokevirtual 307, 3) := by decide +kernel
theorem dX10_guestsOf_29 : decode cX10_guestsOf 29 = .ok (.ifCond .eq 10, 3) := by decide +kernel
theorem dX10_guestsOf_32 : decode cX10_guestsOf 32 = .ok (.iconst 1, 1) := by decide +kernel
theorem dX10_guestsOf_33 : decode cX10_guestsOf 33 = .ok (.iload 4, 2) := by decide +kernel
theorem dX10_guestsOf_35 : decode cX10_guestsOf 35 = .ok (.ishl, 1) := by decide +kernel
theorem dX10_guestsOf_36 : decode cX10_guestsOf 36 = .ok (.goto 4, 3) := by decide +kernel
theorem dX10_guestsOf_39 : decode cX10_guestsOf 39 = .ok (.iconst 0, 1) := by decide +kernel
theorem dX10_guestsOf_40 : decode cX10_guestsOf 40 = .ok (.ior, 1) := by decide +kernel
theorem dX10_guestsOf_41 : decode cX10_guestsOf 41 = .ok (.istore_n 3, 1) := by decide +kernel
theorem dX10_guestsOf_42 : decode cX10_guestsOf 42 = .ok (.iinc 4 1, 3) := by decide +kernel
theorem dX10_guestsOf_45 : decode cX10_guestsOf 45 = .ok (.goto (-40), 3) := by decide +kernel
theorem dX10_guestsOf_48 : decode cX10_guestsOf 48 = .ok (.iload_n 3, 1) := by decide +kernel
theorem dX10_guestsOf_49 : decode cX10_guestsOf 49 = .ok (.ireturn, 1) := by decide +kernel
theorem dX10_guests_0 : decode cX10_guests 0 = .ok (.aload_n 0, 1) := by decide +kernel
theorem dX10_guests_1 : decode cX10_guests 1 = .ok (.iload_n 2, 1) := by decide +kernel
theorem dX10_guests_2 : decode cX10_guests 2 = .ok (.invokevirtual 291, 3) := by decide +kernel
theorem dX10_guests_5 : decode cX10_guests 5 = .ok (.ifCond .eq 21, 3) := by decide +kernel
theorem dX10_guests_8 : decode cX10_guests 8 = .ok (.aload_n 0, 1) := by decide +kernel
theorem dX10_guests_9 : decode cX10_guests 9 = .ok (.iload_n 1, 1) := by decide +kernel
theorem dX10_guests_10 : decode cX10_guests 10 = .ok (.i2l, 1) := by decide +kernel
theorem dX10_guests_11 : decode cX10_guests 11 = .ok (.invokevirtual 230, 3) := by decide +kernel
theorem dX10_guests_14 : decode cX10_guests 14 = .ok (.ifCond .eq 12, 3) := by decide +kernel
theorem dX10_guests_17 : decode cX10_guests 17 = .ok (.aload_n 0, 1) := by decide +kernel
theorem dX10_guests_18 : decode cX10_guests 18 = .ok (.iload_n 1, 1) := by decide +kernel
theorem dX10_guests_19 : decode cX10_guests 19 = .ok (.iload_n 2, 1) := by decide +kernel
theorem dX10_guests_20 : decode cX10_guests 20 = .ok (.invokevirtual 313, 3) := by decide +kernel
theorem dX10_guests_23 : decode cX10_guests 23 = .ok (.goto 5, 3) := by decide +kernel
theorem dX10_guests_26 : decode cX10_guests 26 = .ok (.bipush (-2), 2) := by decide +kernel
theorem dX10_guests_28 : decode cX10_guests 28 = .ok (.ireturn, 1) := by decide +kernel
theorem dX10_areTwo_0 : decode cX10_areTwo 0 = .ok (.aload_n 0, 1) := by decide +kernel
theorem dX10_areTwo_1 : decode cX10_areTwo 1 = .ok (.iload_n 1, 1) := by decide +kernel
theorem dX10_areTwo_2 : decode cX10_areTwo 2 = .ok (.i2l, 1) := by decide +kernel
theorem dX10_areTwo_3 : decode cX10_areTwo 3 = .ok (.invokevirtual 230, 3) := by decide +kernel
theorem dX10_areTwo_6 : decode cX10_areTwo 6 = .ok (.ifCond .eq 21, 3) := by decide +kernel
theorem dX10_areTwo_9 : decode cX10_areTwo 9 = .ok (.aload_n 0, 1) := by decide +kernel
theorem dX10_areTwo_10 : decode cX10_areTwo 10 = .ok (.iload_n 2, 1) := by decide +kernel
theorem dX10_areTwo_11 : decode cX10_areTwo 11 = .ok (.i2l, 1) := by decide +kernel
theorem dX10_areTwo_12 : decode cX10_areTwo 12 = .ok (.invokevirtual 230, 3) := by decide +kernel
theorem dX10_areTwo_15 : decode cX10_areTwo 15 = .ok (.ifCond .eq 12, 3) := by decide +kernel
theorem dX10_areTwo_18 : decode cX10_areTwo 18 = .ok (.iload_n 1, 1) := by decide +kernel
theorem dX10_areTwo_19 : decode cX10_areTwo 19 = .ok (.iload_n 2, 1) := by decide +kernel
theorem dX10_areTwo_20 : decode cX10_areTwo 20 = .ok (.if_icmp .eq 7, 3) := by decide +kernel
theorem dX10_areTwo_23 : decode cX10_areTwo 23 = .ok (.iconst 1, 1) := by decide +kernel
theorem dX10_areTwo_24 : decode cX10_areTwo 24 = .ok (.goto 4, 3) := by decide +kernel
theorem dX10_areTwo_27 : decode cX10_areTwo 27 = .ok (.iconst 0, 1) := by decide +kernel
theorem dX10_areTwo_28 : decode cX10_areTwo 28 = .ok (.ireturn, 1) := by decide +kernel
theorem dX10_first_0 : decode cX10_first 0 = .ok (.aload_n 0, 1) := by decide +kernel
theorem dX10_first_1 : decode cX10_first 1 = .ok (.invokevirtual 285, 3) := by decide +kernel
theorem dX10_first_4 : decode cX10_first 4 = .ok (.pop, 1) := by decide +kernel
theorem dX10_first_5 : decode cX10_first 5 = .ok (.aload_n 0, 1) := by decide +kernel
theorem dX10_first_6 : decode cX10_first 6 = .ok (.iload_n 1, 1) := by decide +kernel
theorem dX10_first_7 : decode cX10_first 7 = .ok (.iload_n 2, 1) := by decide +kernel
theorem dX10_first_8 : decode cX10_first 8 = .ok (.invokevirtual 316, 3) := by decide +kernel
theorem dX10_first_11 : decode cX10_first 11 = .ok (.ifCond .ne 6, 3) := by decide +kernel
theorem dX10_first_14 : decode cX10_first 14 = .ok (.bipush (-2), 2) := by decide +kernel
theorem dX10_first_16 : decode cX10_first 16 = .ok (.ireturn, 1) := by decide +kernel
theorem dX10_first_17 : decode cX10_first 17 = .ok (.iconst 0, 1) := by decide +kernel
theorem dX10_first_18 : decode cX10_first 18 = .ok (.istore_n 3, 1) := by decide +kernel
theorem dX10_first_19 : decode cX10_first 19 = .ok (.iload_n 3, 1) := by decide +kernel
theorem dX10_first_20 : decode cX10_first 20 = .ok (.aload_n 0, 1) := by decide +kernel
theorem dX10_first_21 : decode cX10_first 21 = .ok (.invokevirtual 271, 3) := by decide +kernel
theorem dX10_first_24 : decode cX10_first 24 = .ok (.if_icmp .ge 21, 3) := by decide +kernel
theorem dX10_first_27 : decode cX10_first 27 = .ok (.aload_n 0, 1) := by decide +kernel
theorem dX10_first_28 : decode cX10_first 28 = .ok (.iload_n 1, 1) := by decide +kernel
theorem dX10_first_29 : decode cX10_first 29 = .ok (.iload_n 2, 1) := by decide +kernel
theorem dX10_first_30 : decode cX10_first 30 = .ok (.iload_n 3, 1) := by decide +kernel
theorem dX10_first_31 : decode cX10_first 31 = .ok (.invokevirtual 307, 3) := by decide +kernel
theorem dX10_first_34 : decode cX10_first 34 = .ok (.ifCond .eq 5, 3) := by decide +kernel
theorem dX10_first_37 : decode cX10_first 37 = .ok (.iload_n 3, 1) := by decide +kernel
theorem dX10_first_38 : decode cX10_first 38 = .ok (.ireturn, 1) := by decide +kernel
theorem dX10_first_39 : decode cX10_first 39 = .ok (.iinc 3 1, 3) := by decide +kernel
theorem dX10_first_42 : decode cX10_first 42 = .ok (.goto (-23), 3) := by decide +kernel
theorem dX10_first_45 : decode cX10_first 45 = .ok (.iconst (-1), 1) := by decide +kernel
theorem dX10_first_46 : decode cX10_first 46 = .ok (.ireturn, 1) := by decide +kernel
theorem dX10_often_0 : decode cX10_often 0 = .ok (.aload_n 0, 1) := by decide +kernel
theorem dX10_often_1 : decode cX10_often 1 = .ok (.invokevirtual 285, 3) := by decide +kernel
theorem dX10_often_4 : decode cX10_often 4 = .ok (.pop, 1) := by decide +kernel
theorem dX10_often_5 : decode cX10_often 5 = .ok (.aload_n 0, 1) := by decide +kernel
theorem dX10_often_6 : decode cX10_often 6 = .ok (.iload_n 1, 1) := by decide +kernel
theorem dX10_often_7 : decode cX10_often 7 = .ok (.iload_n 2, 1) := by decide +kernel
theorem dX10_often_8 : decode cX10_often 8 = .ok (.invokevirtual 316, 3) := by decide +kernel
theorem dX10_often_11 : decode cX10_often 11 = .ok (.ifCond .ne 6, 3) := by decide +kernel
theorem dX10_often_14 : decode cX10_often 14 = .ok (.bipush (-2), 2) := by decide +kernel
theorem dX10_often_16 : decode cX10_often 16 = .ok (.ireturn, 1) := by decide +kernel
theorem dX10_often_17 : decode cX10_often 17 = .ok (.iconst 0, 1) := by decide +kernel
theorem dX10_often_18 : decode cX10_often 18 = .ok (.istore_n 3, 1) := by decide +kernel
theorem dX10_often_19 : decode cX10_often 19 = .ok (.iconst 0, 1) := by decide +kernel
theorem dX10_often_20 : decode cX10_often 20 = .ok (.istore 4, 2) := by decide +kernel
theorem dX10_often_22 : decode cX10_often 22 = .ok (.iload 4, 2) := by decide +kernel
theorem dX10_often_24 : decode cX10_often 24 = .ok (.aload_n 0, 1) := by decide +kernel
theorem dX10_often_25 : decode cX10_often 25 = .ok (.invokevirtual 271, 3) := by decide +kernel
theorem dX10_often_28 : decode cX10_often 28 = .ok (.if_icmp .ge 28, 3) := by decide +kernel
theorem dX10_often_31 : decode cX10_often 31 = .ok (.iload_n 3, 1) := by decide +kernel
theorem dX10_often_32 : decode cX10_often 32 = .ok (.aload_n 0, 1) := by decide +kernel
theorem dX10_often_33 : decode cX10_often 33 = .ok (.iload_n 1, 1) := by decide +kernel
theorem dX10_often_34 : decode cX10_often 34 = .ok (.iload_n 2, 1) := by decide +kernel
theorem dX10_often_35 : decode cX10_often 35 = .ok (.iload 4, 2) := by decide +kernel
theorem dX10_often_37 : decode cX10_often 37 = .ok (.invokevirtual 307, 3) := by decide +kernel
theorem dX10_often_40 : decode cX10_often 40 = .ok (.ifCond .eq 7, 3) := by decide +kernel
theorem dX10_often_43 : decode cX10_often 43 = .ok (.iconst 1, 1) := by decide +kernel
theorem dX10_often_44 : decode cX10_often 44 = .ok (.goto 4, 3) := by decide +kernel
theorem dX10_often_47 : decode cX10_often 47 = .ok (.iconst 0, 1) := by decide +kernel
theorem dX10_often_48 : decode cX10_often 48 = .ok (.iadd, 1) := by decide +kernel
theorem dX10_often_49 : decode cX10_often 49 = .ok (.istore_n 3, 1) := by decide +kernel
theorem dX10_often_50 : decode cX10_often 50 = .ok (.iinc 4 1, 3) := by decide +kernel
theorem dX10_often_53 : decode cX10_often 53 = .ok (.goto (-31), 3) := by decide +kernel
theorem dX10_often_56 : decode cX10_often 56 = .ok (.iload_n 3, 1) := by decide +kernel
theorem dX10_often_57 : decode cX10_often 57 = .ok (.ireturn, 1) := by decide +kernel
theorem dX10_newsOf_0 : decode cX10_newsOf 0 = .ok (.iconst 1, 1) := by decide +kernel
theorem dX10_newsOf_1 : decode cX10_newsOf 1 = .ok (.iload_n 1, 1) := by decide +kernel
theorem dX10_newsOf_2 : decode cX10_newsOf 2 = .ok (.ishl, 1) := by decide +kernel
theorem dX10_newsOf_3 : decode cX10_newsOf 3 = .ok (.istore 4, 2) := by decide +kernel
theorem dX10_newsOf_5 : decode cX10_newsOf 5 = .ok (.iconst 0, 1) := by decide +kernel
theorem dX10_newsOf_6 : decode cX10_newsOf 6 = .ok (.istore 5, 2) := by decide +kernel
theorem dX10_newsOf_8 : decode cX10_newsOf 8 = .ok (.iload 5, 2) := by decide +kernel
theorem dX10_newsOf_10 : decode cX10_newsOf 10 = .ok (.bipush 6, 2) := by decide +kernel
theorem dX10_newsOf_12 : decode cX10_newsOf 12 = .ok (.if_icmp .ge 71, 3) := by decide +kernel
theorem dX10_newsOf_15 : decode cX10_newsOf 15 = .ok (.iload 4, 2) := by decide +kernel
theorem dX10_newsOf_17 : decode cX10_newsOf 17 = .ok (.iload_n 2, 1) := by decide +kernel
theorem dX10_newsOf_18 : decode cX10_newsOf 18 = .ok (.invokestatic 258, 3) := by decide +kernel
theorem dX10_newsOf_21 : decode cX10_newsOf 21 = .ok (.iconst 1, 1) := by decide +kernel
theorem dX10_newsOf_22 : decode cX10_newsOf 22 = .ok (.if_icmp .ne 6, 3) := by decide +kernel
theorem dX10_newsOf_25 : decode cX10_newsOf 25 = .ok (.iload 5, 2) := by decide +kernel
theorem dX10_newsOf_27 : decode cX10_newsOf 27 = .ok (.ireturn, 1) := by decide +kernel
theorem dX10_newsOf_28 : decode cX10_newsOf 28 = .ok (.iload 4, 2) := by decide +kernel
theorem dX10_newsOf_30 : decode cX10_newsOf 30 = .ok (.istore 6, 2) := by decide +kernel
theorem dX10_newsOf_32 : decode cX10_newsOf 32 = .ok (.iconst 0, 1) := by decide +kernel
theorem dX10_newsOf_33 : decode cX10_newsOf 33 = .ok (.istore 7, 2) := by decide +kernel
theorem dX10_newsOf_35 : decode cX10_newsOf 35 = .ok (.iload 7, 2) := by decide +kernel
theorem dX10_newsOf_37 : decode cX10_newsOf 37 = .ok (.aload_n 0, 1) := by decide +kernel
theorem dX10_newsOf_38 : decode cX10_newsOf 38 = .ok (.invokevirtual 261, 3) := by decide +kernel
theorem dX10_newsOf_41 : decode cX10_newsOf 41 = .ok (.if_icmp .ge 32, 3) := by decide +kernel
theorem dX10_newsOf_44 : decode cX10_newsOf 44 = .ok (.iload 4, 2) := by decide +kernel
theorem dX10_newsOf_46 : decode cX10_newsOf 46 = .ok (.iload 7, 2) := by decide +kernel
theorem dX10_newsOf_48 : decode cX10_newsOf 48 = .ok (.invokestatic 258, 3) := by decide +kernel
theorem dX10_newsOf_51 : decode cX10_newsOf 51 = .ok (.iconst 1, 1) := by decide +kernel
theorem dX10_newsOf_52 : decode cX10_newsOf 52 = .ok (.if_icmp .ne 15, 3) := by decide +kernel
theorem dX10_newsOf_55 : decode cX10_newsOf 55 = .ok (.iload 6, 2) := by decide +kernel
theorem dX10_newsOf_57 : decode cX10_newsOf 57 = .ok (.aload_n 0, 1) := by decide +kernel
theorem dX10_newsOf_58 : decode cX10_newsOf 58 = .ok (.iload 7, 2) := by decide +kernel
theorem dX10_newsOf_60 : decode cX10_newsOf 60 = .ok (.iload_n 3, 1) := by decide +kernel
theorem dX10_newsOf_61 : decode cX10_newsOf 61 = .ok (.invokevirtual 310, 3) := by decide +kernel
theorem dX10_newsOf_64 : decode cX10_newsOf 64 = .ok (.ior, 1) := by decide +kernel
theorem dX10_newsOf_65 : decode cX10_newsOf 65 = .ok (.istore 6, 2) := by decide +kernel
theorem dX10_newsOf_67 : decode cX10_newsOf 67 = .ok (.iinc 7 1, 3) := by decide +kernel
theorem dX10_newsOf_70 : decode cX10_newsOf 70 = .ok (.goto (-35), 3) := by decide +kernel
theorem dX10_newsOf_73 : decode cX10_newsOf 73 = .ok (.iload 6, 2) := by decide +kernel
theorem dX10_newsOf_75 : decode cX10_newsOf 75 = .ok (.istore 4, 2) := by decide +kernel
theorem dX10_newsOf_77 : decode cX10_newsOf 77 = .ok (.iinc 5 1, 3) := by decide +kernel
theorem dX10_newsOf_80 : decode cX10_newsOf 80 = .ok (.goto (-72), 3) := by decide +kernel
theorem dX10_newsOf_83 : decode cX10_newsOf 83 = .ok (.ldc_w 320, 3) := by decide +kernel
theorem dX10_newsOf_86 : decode cX10_newsOf 86 = .ok (.ireturn, 1) := by decide +kernel
theorem dX10_orNone_0 : decode cX10_orNone 0 = .ok (.iload_n 0, 1) := by decide +kernel
theorem dX10_orNone_1 : decode cX10_orNone 1 = .ok (.ldc_w 320, 3) := by decide +kernel
theorem dX10_orNone_4 : decode cX10_orNone 4 = .ok (.if_icmp .lt 7, 3) := by decide +kernel
theorem dX10_orNone_7 : decode cX10_orNone 7 = .ok (.iconst (-1), 1) := by decide +kernel
theorem dX10_orNone_8 : decode cX10_orNone 8 = .ok (.goto 4, 3) := by decide +kernel
theorem dX10_orNone_11 : decode cX10_orNone 11 = .ok (.iload_n 0, 1) := by decide +kernel
theorem dX10_orNone_12 : decode cX10_orNone 12 = .ok (.ireturn, 1) := by decide +kernel
theorem dX10_news_0 : decode cX10_news 0 = .ok (.aload_n 0, 1) := by decide +kernel
theorem dX10_news_1 : decode cX10_news 1 = .ok (.iload_n 3, 1) := by decide +kernel
theorem dX10_news_2 : decode cX10_news 2 = .ok (.invokevirtual 291, 3) := by decide +kernel
theorem dX10_news_5 : decode cX10_news 5 = .ok (.ifCond .eq 34, 3) := by decide +kernel
theorem dX10_news_8 : decode cX10_news 8 = .ok (.aload_n 0, 1) := by decide +kernel
theorem dX10_news_9 : decode cX10_news 9 = .ok (.iload_n 1, 1) := by decide +kernel
theorem dX10_news_10 : decode cX10_news 10 = .ok (.i2l, 1) := by decide +kernel
theorem dX10_news_11 : decode cX10_news 11 = .ok (.invokevirtual 230, 3) := by decide +kernel
theorem dX10_news_14 : decode cX10_news 14 = .ok (.ifCond .eq 25, 3) := by decide +kernel
theorem dX10_news_17 : decode cX10_news 17 = .ok (.aload_n 0, 1) := by decide +kernel
theorem dX10_news_18 : decode cX10_news 18 = .ok (.iload_n 2, 1) := by decide +kernel
theorem dX10_news_19 : decode cX10_news 19 = .ok (.i2l, 1) := by decide +kernel
theorem dX10_news_20 : decode cX10_news 20 = .ok (.invokevirtual 230, 3) := by decide +kernel
theorem dX10_news_23 : decode cX10_news 23 = .ok (.ifCond .eq 16, 3) := by decide +kernel
theorem dX10_news_26 : decode cX10_news 26 = .ok (.aload_n 0, 1) := by decide +kernel
theorem dX10_news_27 : decode cX10_news 27 = .ok (.iload_n 1, 1) := by decide +kernel
theorem dX10_news_28 : decode cX10_news 28 = .ok (.iload_n 2, 1) := by decide +kernel
theorem dX10_news_29 : decode cX10_news 29 = .ok (.iload_n 3, 1) := by decide +kernel
theorem dX10_news_30 : decode cX10_news 30 = .ok (.invokevirtual 321, 3) := by decide +kernel
theorem dX10_news_33 : decode cX10_news 33 = .ok (.invokestatic 325, 3) := by decide +kernel
theorem dX10_news_36 : decode cX10_news 36 = .ok (.goto 5, 3) := by decide +kernel
theorem dX10_news_39 : decode cX10_news 39 = .ok (.bipush (-2), 2) := by decide +kernel
theorem dX10_news_41 : decode cX10_news 41 = .ok (.ireturn, 1) := by decide +kernel
theorem dX10_widest_0 : decode cX10_widest 0 = .ok (.aload_n 0, 1) := by decide +kernel
theorem dX10_widest_1 : decode cX10_widest 1 = .ok (.iload_n 1, 1) := by decide +kernel
theorem dX10_widest_2 : decode cX10_widest 2 = .ok (.invokevirtual 291, 3) := by decide +kernel
theorem dX10_widest_5 : decode cX10_widest 5 = .ok (.ifCond .ne 6, 3) := by decide +kernel
theorem dX10_widest_8 : decode cX10_widest 8 = .ok (.bipush (-2), 2) := by decide +kernel
theorem dX10_widest_10 : decode cX10_widest 10 = .ok (.ireturn, 1) := by decide +kernel
theorem dX10_widest_11 : decode cX10_widest 11 = .ok (.iconst 0, 1) := by decide +kernel
theorem dX10_widest_12 : decode cX10_widest 12 = .ok (.istore_n 2, 1) := by decide +kernel
theorem dX10_widest_13 : decode cX10_widest 13 = .ok (.iconst 0, 1) := by decide +kernel
theorem dX10_widest_14 : decode cX10_widest 14 = .ok (.istore_n 3, 1) := by decide +kernel
theorem dX10_widest_15 : decode cX10_widest 15 = .ok (.iload_n 3, 1) := by decide +kernel
theorem dX10_widest_16 : decode cX10_widest 16 = .ok (.aload_n 0, 1) := by decide +kernel
theorem dX10_widest_17 : decode cX10_widest 17 = .ok (.invokevirtual 261, 3) := by decide +kernel
theorem dX10_widest_20 : decode cX10_widest 20 = .ok (.if_icmp .ge 54, 3) := by decide +kernel
theorem dX10_widest_23 : decode cX10_widest 23 = .ok (.iconst 0, 1) := by decide +kernel
theorem dX10_widest_24 : decode cX10_widest 24 = .ok (.istore 4, 2) := by decide +kernel
theorem dX10_widest_26 : decode cX10_widest 26 = .ok (.iload 4, 2) := by decide +kernel
theorem dX10_widest_28 : decode cX10_widest 28 = .ok (.aload_n 0, 1) := by decide +kernel
theorem dX10_widest_29 : decode cX10_widest 29 = .ok (.invokevirtual 261, 3) := by decide +kernel
theorem dX10_widest_32 : decode cX10_widest 32 = .ok (.if_icmp .ge 36, 3) := by decide +kernel
theorem dX10_widest_35 : decode cX10_widest 35 = .ok (.aload_n 0, 1) := by decide +kernel
theorem dX10_widest_36 : decode cX10_widest 36 = .ok (.iload_n 3, 1) := by decide +kernel
theorem dX10_widest_37 : decode cX10_widest 37 = .ok (.iload 4, 2) := by decide +kernel
theorem dX10_widest_39 : decode cX10_widest 39 = .ok (.iload_n 1, 1) := by decide +kernel
theorem dX10_widest_40 : decode cX10_widest 40 = .ok (.invokevirtual 321, 3) := by decide +kernel
theorem dX10_widest_43 : decode cX10_widest 43 = .ok (.ldc_w 320, 3) := by decide +kernel
theorem dX10_widest_46 : decode cX10_widest 46 = .ok (.if_icmp .ge 16, 3) := by decide +kernel
theorem dX10_widest_49 : decode cX10_widest 49 = .ok (.iload_n 2, 1) := by decide +kernel
theorem dX10_widest_50 : decode cX10_widest 50 = .ok (.aload_n 0, 1) := by decide +kernel
theorem dX10_widest_51 : decode cX10_widest 51 = .ok (.iload_n 3, 1) := by decide +kernel
theorem dX10_widest_52 : decode cX10_widest 52 = .ok (.iload 4, 2) := by decide +kernel
theorem dX10_widest_54 : decode cX10_widest 54 = .ok (.iload_n 1, 1) := by decide +kernel
theorem dX10_widest_55 : decode cX10_widest 55 = .ok (.invokevirtual 321, 3) := by decide +kernel
theorem dX10_widest_58 : decode cX10_widest 58 = .ok (.invokestatic 255, 3) := by decide +kernel
theorem dX10_widest_61 : decode cX10_widest 61 = .ok (.istore_n 2, 1) := by decide +kernel
theorem dX10_widest_62 : decode cX10_widest 62 = .ok (.iinc 4 1, 3) := by decide +kernel
theorem dX10_widest_65 : decode cX10_widest 65 = .ok (.goto (-39), 3) := by decide +kernel
theorem dX10_widest_68 : decode cX10_widest 68 = .ok (.iinc 3 1, 3) := by decide +kernel
theorem dX10_widest_71 : decode cX10_widest 71 = .ok (.goto (-56), 3) := by decide +kernel
theorem dX10_widest_74 : decode cX10_widest 74 = .ok (.iload_n 2, 1) := by decide +kernel
theorem dX10_widest_75 : decode cX10_widest 75 = .ok (.ireturn, 1) := by decide +kernel
theorem dX10_friendsOf_0 : decode cX10_friendsOf 0 = .ok (.iconst 0, 1) := by decide +kernel
theorem dX10_friendsOf_1 : decode cX10_friendsOf 1 = .ok (.istore_n 2, 1) := by decide +kernel
theorem dX10_friendsOf_2 : decode cX10_friendsOf 2 = .ok (.iconst 0, 1) := by decide +kernel
theorem dX10_friendsOf_3 : decode cX10_friendsOf 3 = .ok (.istore_n 3, 1) := by decide +kernel
theorem dX10_friendsOf_4 : decode cX10_friendsOf 4 = .ok (.iload_n 3, 1) := by decide +kernel
theorem dX10_friendsOf_5 : decode cX10_friendsOf 5 = .ok (.aload_n 0, 1) := by decide +kernel
theorem dX10_friendsOf_6 : decode cX10_friendsOf 6 = .ok (.invokevirtual 261, 3) := by decide +kernel
theorem dX10_friendsOf_9 : decode cX10_friendsOf 9 = .ok (.if_icmp .ge 59, 3) := by decide +kernel
theorem dX10_friendsOf_12 : decode cX10_friendsOf 12 = .ok (.iload_n 3, 1) := by decide +kernel
theorem dX10_friendsOf_13 : decode cX10_friendsOf 13 = .ok (.iconst 1, 1) := by decide +kernel
theorem dX10_friendsOf_14 : decode cX10_friendsOf 14 = .ok (.iadd, 1) := by decide +kernel
theorem dX10_friendsOf_15 : decode cX10_friendsOf 15 = .ok (.istore 4, 2) := by decide +kernel
theorem dX10_friendsOf_17 : decode cX10_friendsOf 17 = .ok (.iload 4, 2) := by decide +kernel
theorem dX10_friendsOf_19 : decode cX10_friendsOf 19 = .ok (.aload_n 0, 1) := by decide +kernel
theorem dX10_friendsOf_20 : decode cX10_friendsOf 20 = .ok (.invokevirtual 261, 3) := by decide +kernel
theorem dX10_friendsOf_23 : decode cX10_friendsOf 23 = .ok (.if_icmp .ge 39, 3) := by decide +kernel
theorem dX10_friendsOf_26 : decode cX10_friendsOf 26 = .ok (.iload_n 2, 1) := by decide +kernel
theorem dX10_friendsOf_27 : decode cX10_friendsOf 27 = .ok (.aload_n 0, 1) := by decide +kernel
theorem dX10_friendsOf_28 : decode cX10_friendsOf 28 = .ok (.iload_n 3, 1) := by decide +kernel
theorem dX10_friendsOf_29 : decode cX10_friendsOf 29 = .ok (.iload 4, 2) := by decide +kernel
theorem dX10_friendsOf_31 : decode cX10_friendsOf 31 = .ok (.iload_n 1, 1) := by decide +kernel
theorem dX10_friendsOf_32 : decode cX10_friendsOf 32 = .ok (.invokevirtual 307, 3) := by decide +kernel
theorem dX10_friendsOf_35 : decode cX10_friendsOf 35 = .ok (.ifCond .eq 18, 3) := by decide +kernel
theorem dX10_friendsOf_38 : decode cX10_friendsOf 38 = .ok (.aload_n 0, 1) := by decide +kernel
theorem dX10_friendsOf_39 : decode cX10_friendsOf 39 = .ok (.iload 4, 2) := by decide +kernel
theorem dX10_friendsOf_41 : decode cX10_friendsOf 41 = .ok (.iload_n 3, 1) := by decide +kernel
theorem dX10_friendsOf_42 : decode cX10_friendsOf 42 = .ok (.iload_n 1, 1) := by decide +kernel
theorem dX10_friendsOf_43 : decode cX10_friendsOf 43 = .ok (.invokevirtual 307, 3) := by decide +kernel
theorem dX10_friendsOf_46 : decode cX10_friendsOf 46 = .ok (.ifCond .eq 7, 3) := by decide +kernel
theorem dX10_friendsOf_49 : decode cX10_friendsOf 49 = .ok (.iconst 1, 1) := by decide +kernel
theorem dX10_friendsOf_50 : decode cX10_friendsOf 50 = .ok (.goto 4, 3) := by decide +kernel
theorem dX10_friendsOf_53 : decode cX10_friendsOf 53 = .ok (.iconst 0, 1) := by decide +kernel
theorem dX10_friendsOf_54 : decode cX10_friendsOf 54 = .ok (.iadd, 1) := by decide +kernel
theorem dX10_friendsOf_55 : decode cX10_friendsOf 55 = .ok (.istore_n 2, 1) := by decide +kernel
theorem dX10_friendsOf_56 : decode cX10_friendsOf 56 = .ok (.iinc 4 1, 3) := by decide +kernel
theorem dX10_friendsOf_59 : decode cX10_friendsOf 59 = .ok (.goto (-42), 3) := by decide +kernel
theorem dX10_friendsOf_62 : decode cX10_friendsOf 62 = .ok (.iinc 3 1, 3) := by decide +kernel
theorem dX10_friendsOf_65 : decode cX10_friendsOf 65 = .ok (.goto (-61), 3) := by decide +kernel
theorem dX10_friendsOf_68 : decode cX10_friendsOf 68 = .ok (.iload_n 2, 1) := by decide +kernel
theorem dX10_friendsOf_69 : decode cX10_friendsOf 69 = .ok (.ireturn, 1) := by decide +kernel
theorem dX10_friends_0 : decode cX10_friends 0 = .ok (.aload_n 0, 1) := by decide +kernel
theorem dX10_friends_1 : decode cX10_friends 1 = .ok (.iload_n 1, 1) := by decide +kernel
theorem dX10_friends_2 : decode cX10_friends 2 = .ok (.invokevirtual 291, 3) := by decide +kernel
theorem dX10_friends_5 : decode cX10_friends 5 = .ok (.ifCond .eq 11, 3) := by decide +kernel
theorem dX10_friends_8 : decode cX10_friends 8 = .ok (.aload_n 0, 1) := by decide +kernel
theorem dX10_friends_9 : decode cX10_friends 9 = .ok (.iload_n 1, 1) := by decide +kernel
theorem dX10_friends_10 : decode cX10_friends 10 = .ok (.invokevirtual 328, 3) := by decide +kernel
theorem dX10_friends_13 : decode cX10_friends 13 = .ok (.goto 5, 3) := by decide +kernel
theorem dX10_friends_16 : decode cX10_friends 16 = .ok (.bipush (-2), 2) := by decide +kernel
theorem dX10_friends_18 : decode cX10_friends 18 = .ok (.ireturn, 1) := by decide +kernel
theorem dX10_fair_0 : decode cX10_fair 0 = .ok (.aload_n 0, 1) := by decide +kernel
theorem dX10_fair_1 : decode cX10_fair 1 = .ok (.invokevirtual 285, 3) := by decide +kernel
theorem dX10_fair_4 : decode cX10_fair 4 = .ok (.ifCond .ne 6, 3) := by decide +kernel
theorem dX10_fair_7 : decode cX10_fair 7 = .ok (.bipush (-2), 2) := by decide +kernel
theorem dX10_fair_9 : decode cX10_fair 9 = .ok (.ireturn, 1) := by decide +kernel
theorem dX10_fair_10 : decode cX10_fair 10 = .ok (.iconst 0, 1) := by decide +kernel
theorem dX10_fair_11 : decode cX10_fair 11 = .ok (.istore_n 1, 1) := by decide +kernel
theorem dX10_fair_12 : decode cX10_fair 12 = .ok (.iconst 1, 1) := by decide +kernel
theorem dX10_fair_13 : decode cX10_fair 13 = .ok (.istore_n 2, 1) := by decide +kernel
theorem dX10_fair_14 : decode cX10_fair 14 = .ok (.iload_n 2, 1) := by decide +kernel
theorem dX10_fair_15 : decode cX10_fair 15 = .ok (.aload_n 0, 1) := by decide +kernel
theorem dX10_fair_16 : decode cX10_fair 16 = .ok (.invokevirtual 271, 3) := by decide +kernel
theorem dX10_fair_19 : decode cX10_fair 19 = .ok (.if_icmp .ge 28, 3) := by decide +kernel
theorem dX10_fair_22 : decode cX10_fair 22 = .ok (.aload_n 0, 1) := by decide +kernel
theorem dX10_fair_23 : decode cX10_fair 23 = .ok (.iload_n 2, 1) := by decide +kernel
theorem dX10_fair_24 : decode cX10_fair 24 = .ok (.invokevirtual 328, 3) := by decide +kernel
theorem dX10_fair_27 : decode cX10_fair 27 = .ok (.aload_n 0, 1) := by decide +kernel
theorem dX10_fair_28 : decode cX10_fair 28 = .ok (.iload_n 1, 1) := by decide +kernel
theorem dX10_fair_29 : decode cX10_fair 29 = .ok (.invokevirtual 328, 3) := by decide +kernel
theorem dX10_fair_32 : decode cX10_fair 32 = .ok (.if_icmp .le 7, 3) := by decide +kernel
theorem dX10_fair_35 : decode cX10_fair 35 = .ok (.iload_n 2, 1) := by decide +kernel
theorem dX10_fair_36 : decode cX10_fair 36 = .ok (.goto 4, 3) := by decide +kernel
theorem dX10_fair_39 : decode cX10_fair 39 = .ok (.iload_n 1, 1) := by decide +kernel
theorem dX10_fair_40 : decode cX10_fair 40 = .ok (.istore_n 1, 1) := by decide +kernel
theorem dX10_fair_41 : decode cX10_fair 41 = .ok (.iinc 2 1, 3) := by decide +kernel
theorem dX10_fair_44 : decode cX10_fair 44 = .ok (.goto (-30), 3) := by decide +kernel
theorem dX10_fair_47 : decode cX10_fair 47 = .ok (.iload_n 1, 1) := by decide +kernel
theorem dX10_fair_48 : decode cX10_fair 48 = .ok (.ireturn, 1) := by decide +kernel
theorem dX10_fords_0 : decode cX10_fords 0 = .ok (.aload_n 0, 1) := by decide +kernel
theorem dX10_fords_1 : decode cX10_fords 1 = .ok (.iload_n 2, 1) := by decide +kernel
theorem dX10_fords_2 : decode cX10_fords 2 = .ok (.invokevirtual 291, 3) := by decide +kernel
theorem dX10_fords_5 : decode cX10_fords 5 = .ok (.ifCond .eq 12, 3) := by decide +kernel
theorem dX10_fords_8 : decode cX10_fords 8 = .ok (.aload_n 0, 1) := by decide +kernel
theorem dX10_fords_9 : decode cX10_fords 9 = .ok (.iload_n 1, 1) := by decide +kernel
theorem dX10_fords_10 : decode cX10_fords 10 = .ok (.i2l, 1) := by decide +kernel
theorem dX10_fords_11 : decode cX10_fords 11 = .ok (.invokevirtual 230, 3) := by decide +kernel
theorem dX10_fords_14 : decode cX10_fords 14 = .ok (.ifCond .ne 6, 3) := by decide +kernel
theorem dX10_fords_17 : decode cX10_fords 17 = .ok (.bipush (-2), 2) := by decide +kernel
theorem dX10_fords_19 : decode cX10_fords 19 = .ok (.ireturn, 1) := by decide +kernel
theorem dX10_fords_20 : decode cX10_fords 20 = .ok (.iconst 0, 1) := by decide +kernel
theorem dX10_fords_21 : decode cX10_fords 21 = .ok (.istore_n 3, 1) := by decide +kernel
theorem dX10_fords_22 : decode cX10_fords 22 = .ok (.iconst 0, 1) := by decide +kernel
theorem dX10_fords_23 : decode cX10_fords 23 = .ok (.istore 4, 2) := by decide +kernel
theorem dX10_fords_25 : decode cX10_fords 25 = .ok (.iload 4, 2) := by decide +kernel
theorem dX10_fords_27 : decode cX10_fords 27 = .ok (.aload_n 0, 1) := by decide +kernel
theorem dX10_fords_28 : decode cX10_fords 28 = .ok (.invokevirtual 261, 3) := by decide +kernel
theorem dX10_fords_31 : decode cX10_fords 31 = .ok (.if_icmp .ge 31, 3) := by decide +kernel
theorem dX10_fords_34 : decode cX10_fords 34 = .ok (.iload_n 3, 1) := by decide +kernel
theorem dX10_fords_35 : decode cX10_fords 35 = .ok (.aload_n 0, 1) := by decide +kernel
theorem dX10_fords_36 : decode cX10_fords 36 = .ok (.iload_n 1, 1) := by decide +kernel
theorem dX10_fords_37 : decode cX10_fords 37 = .ok (.iload 4, 2) := by decide +kernel
theorem dX10_fords_39 : decode cX10_fords 39 = .ok (.iload_n 2, 1) := by decide +kernel
theorem dX10_fords_40 : decode cX10_fords 40 = .ok (.invokevirtual 303, 3) := by decide +kernel
theorem dX10_fords_43 : decode cX10_fords 43 = .ok (.ifCond .eq 10, 3) := by decide +kernel
theorem dX10_fords_46 : decode cX10_fords 46 = .ok (.iconst 1, 1) := by decide +kernel
theorem dX10_fords_47 : decode cX10_fords 47 = .ok (.iload 4, 2) := by decide +kernel
theorem dX10_fords_49 : decode cX10_fords 49 = .ok (.ishl, 1) := by decide +kernel
theorem dX10_fords_50 : decode cX10_fords 50 = .ok (.goto 4, 3) := by decide +kernel
theorem dX10_fords_53 : decode cX10_fords 53 = .ok (.iconst 0, 1) := by decide +kernel
theorem dX10_fords_54 : decode cX10_fords 54 = .ok (.ior, 1) := by decide +kernel
theorem dX10_fords_55 : decode cX10_fords 55 = .ok (.istore_n 3, 1) := by decide +kernel
theorem dX10_fords_56 : decode cX10_fords 56 = .ok (.iinc 4 1, 3) := by decide +kernel
theorem dX10_fords_59 : decode cX10_fords 59 = .ok (.goto (-34), 3) := by decide +kernel
theorem dX10_fords_62 : decode cX10_fords 62 = .ok (.iload_n 3, 1) := by decide +kernel
theorem dX10_fords_63 : decode cX10_fords 63 = .ok (.ireturn, 1) := by decide +kernel
theorem dX10_shut_0 : decode cX10_shut 0 = .ok (.aload_n 0, 1) := by decide +kernel
theorem dX10_shut_1 : decode cX10_shut 1 = .ok (.iload_n 1, 1) := by decide +kernel
theorem dX10_shut_2 : decode cX10_shut 2 = .ok (.invokevirtual 291, 3) := by decide +kernel
theorem dX10_shut_5 : decode cX10_shut 5 = .ok (.ifCond .ne 6, 3) := by decide +kernel
theorem dX10_shut_8 : decode cX10_shut 8 = .ok (.bipush (-2), 2) := by decide +kernel
theorem dX10_shut_10 : decode cX10_shut 10 = .ok (.ireturn, 1) := by decide +kernel
theorem dX10_shut_11 : decode cX10_shut 11 = .ok (.iconst 0, 1) := by decide +kernel
theorem dX10_shut_12 : decode cX10_shut 12 = .ok (.istore_n 2, 1) := by decide +kernel
theorem dX10_shut_13 : decode cX10_shut 13 = .ok (.iconst 0, 1) := by decide +kernel
theorem dX10_shut_14 : decode cX10_shut 14 = .ok (.istore_n 3, 1) := by decide +kernel
theorem dX10_shut_15 : decode cX10_shut 15 = .ok (.iload_n 3, 1) := by decide +kernel
theorem dX10_shut_16 : decode cX10_shut 16 = .ok (.aload_n 0, 1) := by decide +kernel
theorem dX10_shut_17 : decode cX10_shut 17 = .ok (.invokevirtual 261, 3) := by decide +kernel
theorem dX10_shut_20 : decode cX10_shut 20 = .ok (.if_icmp .ge 29, 3) := by decide +kernel
theorem dX10_shut_23 : decode cX10_shut 23 = .ok (.iload_n 2, 1) := by decide +kernel
theorem dX10_shut_24 : decode cX10_shut 24 = .ok (.aload_n 0, 1) := by decide +kernel
theorem dX10_shut_25 : decode cX10_shut 25 = .ok (.iload_n 3, 1) := by decide +kernel
theorem dX10_shut_26 : decode cX10_shut 26 = .ok (.iload_n 3, 1) := by decide +kernel
theorem dX10_shut_27 : decode cX10_shut 27 = .ok (.iload_n 1, 1) := by decide +kernel
theorem dX10_shut_28 : decode cX10_shut 28 = .ok (.invokevirtual 303, 3) := by decide +kernel
theorem dX10_shut_31 : decode cX10_shut 31 = .ok (.ifCond .eq 7, 3) := by decide +kernel
theorem dX10_shut_34 : decode cX10_shut 34 = .ok (.iconst 0, 1) := by decide +kernel
theorem dX10_shut_35 : decode cX10_shut 35 = .ok (.goto 6, 3) := by decide +kernel
theorem dX10_shut_38 : decode cX10_shut 38 = .ok (.iconst 1, 1) := by decide +kernel
theorem dX10_shut_39 : decode cX10_shut 39 = .ok (.iload_n 3, 1) := by decide +kernel
theorem dX10_shut_40 : decode cX10_shut 40 = .ok (.ishl, 1) := by decide +kernel
theorem dX10_shut_41 : decode cX10_shut 41 = .ok (.ior, 1) := by decide +kernel
theorem dX10_shut_42 : decode cX10_shut 42 = .ok (.istore_n 2, 1) := by decide +kernel
theorem dX10_shut_43 : decode cX10_shut 43 = .ok (.iinc 3 1, 3) := by decide +kernel
theorem dX10_shut_46 : decode cX10_shut 46 = .ok (.goto (-31), 3) := by decide +kernel
theorem dX10_shut_49 : decode cX10_shut 49 = .ok (.iload_n 2, 1) := by decide +kernel
theorem dX10_shut_50 : decode cX10_shut 50 = .ok (.ireturn, 1) := by decide +kernel
theorem dX10_lone_0 : decode cX10_lone 0 = .ok (.aload_n 0, 1) := by decide +kernel
theorem dX10_lone_1 : decode cX10_lone 1 = .ok (.invokevirtual 285, 3) := by decide +kernel
theorem dX10_lone_4 : decode cX10_lone 4 = .ok (.ifCond .ne 6, 3) := by decide +kernel
theorem dX10_lone_7 : decode cX10_lone 7 = .ok (.bipush (-2), 2) := by decide +kernel
theorem dX10_lone_9 : decode cX10_lone 9 = .ok (.ireturn, 1) := by decide +kernel
theorem dX10_lone_10 : decode cX10_lone 10 = .ok (.iconst 0, 1) := by decide +kernel
theorem dX10_lone_11 : decode cX10_lone 11 = .ok (.istore_n 1, 1) := by decide +kernel
theorem dX10_lone_12 : decode cX10_lone 12 = .ok (.iconst 0, 1) := by decide +kernel
theorem dX10_lone_13 : decode cX10_lone 13 = .ok (.istore_n 2, 1) := by decide +kernel
theorem dX10_lone_14 : decode cX10_lone 14 = .ok (.iload_n 2, 1) := by decide +kernel
theorem dX10_lone_15 : decode cX10_lone 15 = .ok (.aload_n 0, 1) := by decide +kernel
theorem dX10_lone_16 : decode cX10_lone 16 = .ok (.invokevirtual 261, 3) := by decide +kernel
theorem dX10_lone_19 : decode cX10_lone 19 = .ok (.if_icmp .ge 63, 3) := by decide +kernel
theorem dX10_lone_22 : decode cX10_lone 22 = .ok (.iconst 1, 1) := by decide +kernel
theorem dX10_lone_23 : decode cX10_lone 23 = .ok (.istore_n 3, 1) := by decide +kernel
theorem dX10_lone_24 : decode cX10_lone 24 = .ok (.iconst 0, 1) := by decide +kernel
theorem dX10_lone_25 : decode cX10_lone 25 = .ok (.istore 4, 2) := by decide +kernel
theorem dX10_lone_27 : decode cX10_lone 27 = .ok (.iload 4, 2) := by decide +kernel
theorem dX10_lone_29 : decode cX10_lone 29 = .ok (.aload_n 0, 1) := by decide +kernel
theorem dX10_lone_30 : decode cX10_lone 30 = .ok (.invokevirtual 271, 3) := by decide +kernel
theorem dX10_lone_33 : decode cX10_lone 33 = .ok (.if_icmp .ge 29, 3) := by decide +kernel
theorem dX10_lone_36 : decode cX10_lone 36 = .ok (.iload_n 3, 1) := by decide +kernel
theorem dX10_lone_37 : decode cX10_lone 37 = .ok (.ifCond .eq 17, 3) := by decide +kernel
theorem dX10_lone_40 : decode cX10_lone 40 = .ok (.aload_n 0, 1) := by decide +kernel
theorem dX10_lone_41 : decode cX10_lone 41 = .ok (.iload_n 2, 1) := by decide +kernel
theorem dX10_lone_42 : decode cX10_lone 42 = .ok (.iload 4, 2) := by decide +kernel
theorem dX10_lone_44 : decode cX10_lone 44 = .ok (.invokevirtual 313, 3) := by decide +kernel
theorem dX10_lone_47 : decode cX10_lone 47 = .ok (.ifCond .ne 7, 3) := by decide +kernel
theorem dX10_lone_50 : decode cX10_lone 50 = .ok (.iconst 1, 1) := by decide +kernel
theorem dX10_lone_51 : decode cX10_lone 51 = .ok (.goto 4, 3) := by decide +kernel
theorem dX10_lone_54 : decode cX10_lone 54 = .ok (.iconst 0, 1) := by decide +kernel
theorem dX10_lone_55 : decode cX10_lone 55 = .ok (.istore_n 3, 1) := by decide +kernel
theorem dX10_lone_56 : decode cX10_lone 56 = .ok (.iinc 4 1, 3) := by decide +kernel
theorem dX10_lone_59 : decode cX10_lone 59 = .ok (.goto (-32), 3) := by decide +kernel
theorem dX10_lone_62 : decode cX10_lone 62 = .ok (.iload_n 1, 1) := by decide +kernel
theorem dX10_lone_63 : decode cX10_lone 63 = .ok (.iload_n 3, 1) := by decide +kernel
theorem dX10_lone_64 : decode cX10_lone 64 = .ok (.ifCond .eq 9, 3) := by decide +kernel
theorem dX10_lone_67 : decode cX10_lone 67 = .ok (.iconst 1, 1) := by decide +kernel
theorem dX10_lone_68 : decode cX10_lone 68 = .ok (.iload_n 2, 1) := by decide +kernel
theorem dX10_lone_69 : decode cX10_lone 69 = .ok (.ishl, 1) := by decide +kernel
theorem dX10_lone_70 : decode cX10_lone 70 = .ok (.goto 4, 3) := by decide +kernel
theorem dX10_lone_73 : decode cX10_lone 73 = .ok (.iconst 0, 1) := by decide +kernel
theorem dX10_lone_74 : decode cX10_lone 74 = .ok (.ior, 1) := by decide +kernel
theorem dX10_lone_75 : decode cX10_lone 75 = .ok (.istore_n 1, 1) := by decide +kernel
theorem dX10_lone_76 : decode cX10_lone 76 = .ok (.iinc 2 1, 3) := by decide +kernel
theorem dX10_lone_79 : decode cX10_lone 79 = .ok (.goto (-65), 3) := by decide +kernel
theorem dX10_lone_82 : decode cX10_lone 82 = .ok (.iload_n 1, 1) := by decide +kernel
theorem dX10_lone_83 : decode cX10_lone 83 = .ok (.ireturn, 1) := by decide +kernel
theorem dX10_isKept_0 : decode cX10_isKept 0 = .ok (.aload_n 0, 1) := by decide +kernel
theorem dX10_isKept_1 : decode cX10_isKept 1 = .ok (.aload_n 0, 1) := by decide +kernel
theorem dX10_isKept_2 : decode cX10_isKept 2 = .ok (.iload_n 1, 1) := by decide +kernel
theorem dX10_isKept_3 : decode cX10_isKept 3 = .ok (.iconst 2, 1) := by decide +kernel
theorem dX10_isKept_4 : decode cX10_isKept 4 = .ok (.invokevirtual 243, 3) := by decide +kernel
theorem dX10_isKept_7 : decode cX10_isKept 7 = .ok (.i2l, 1) := by decide +kernel
theorem dX10_isKept_8 : decode cX10_isKept 8 = .ok (.invokevirtual 288, 3) := by decide +kernel
theorem dX10_isKept_11 : decode cX10_isKept 11 = .ok (.ifCond .eq 32, 3) := by decide +kernel
theorem dX10_isKept_14 : decode cX10_isKept 14 = .ok (.aload_n 0, 1) := by decide +kernel
theorem dX10_isKept_15 : decode cX10_isKept 15 = .ok (.aload_n 0, 1) := by decide +kernel
theorem dX10_isKept_16 : decode cX10_isKept 16 = .ok (.iload_n 1, 1) := by decide +kernel
theorem dX10_isKept_17 : decode cX10_isKept 17 = .ok (.iconst 0, 1) := by decide +kernel
theorem dX10_isKept_18 : decode cX10_isKept 18 = .ok (.invokevirtual 243, 3) := by decide +kernel
theorem dX10_isKept_21 : decode cX10_isKept 21 = .ok (.aload_n 0, 1) := by decide +kernel
theorem dX10_isKept_22 : decode cX10_isKept 22 = .ok (.iload_n 1, 1) := by decide +kernel
theorem dX10_isKept_23 : decode cX10_isKept 23 = .ok (.iconst 1, 1) := by decide +kernel
theorem dX10_isKept_24 : decode cX10_isKept 24 = .ok (.invokevirtual 243, 3) := by decide +kernel
theorem dX10_isKept_27 : decode cX10_isKept 27 = .ok (.aload_n 0, 1) := by decide +kernel
theorem dX10_isKept_28 : decode cX10_isKept 28 = .ok (.iload_n 1, 1) := by decide +kernel
theorem dX10_isKept_29 : decode cX10_isKept 29 = .ok (.iconst 2, 1) := by decide +kernel
theorem dX10_isKept_30 : decode cX10_isKept 30 = .ok (.invokevirtual 243, 3) := by decide +kernel
theorem dX10_isKept_33 : decode cX10_isKept 33 = .ok (.invokevirtual 307, 3) := by decide +kernel
theorem dX10_isKept_36 : decode cX10_isKept 36 = .ok (.ifCond .eq 7, 3) := by decide +kernel
theorem dX10_isKept_39 : decode cX10_isKept 39 = .ok (.iconst 1, 1) := by decide +kernel
theorem dX10_isKept_40 : decode cX10_isKept 40 = .ok (.goto 4, 3) := by decide +kernel
theorem dX10_isKept_43 : decode cX10_isKept 43 = .ok (.iconst 0, 1) := by decide +kernel
theorem dX10_isKept_44 : decode cX10_isKept 44 = .ok (.ireturn, 1) := by decide +kernel
theorem dX10_keptSet_0 : decode cX10_keptSet 0 = .ok (.iconst 0, 1) := by decide +kernel
theorem dX10_keptSet_1 : decode cX10_keptSet 1 = .ok (.istore_n 1, 1) := by decide +kernel
theorem dX10_keptSet_2 : decode cX10_keptSet 2 = .ok (.iconst 0, 1) := by decide +kernel
theorem dX10_keptSet_3 : decode cX10_keptSet 3 = .ok (.istore_n 2, 1) := by decide +kernel
theorem dX10_keptSet_4 : decode cX10_keptSet 4 = .ok (.iload_n 2, 1) := by decide +kernel
theorem dX10_keptSet_5 : decode cX10_keptSet 5 = .ok (.aload_n 0, 1) := by decide +kernel
theorem dX10_keptSet_6 : decode cX10_keptSet 6 = .ok (.getfield 9, 3) := by decide +kernel
theorem dX10_keptSet_9 : decode cX10_keptSet 9 = .ok (.bipush 7, 2) := by decide +kernel
theorem dX10_keptSet_11 : decode cX10_keptSet 11 = .ok (.iaload, 1) := by decide +kernel
theorem dX10_keptSet_12 : decode cX10_keptSet 12 = .ok (.if_icmp .ge 27, 3) := by decide +kernel
theorem dX10_keptSet_15 : decode cX10_keptSet 15 = .ok (.iload_n 1, 1) := by decide +kernel
theorem dX10_keptSet_16 : decode cX10_keptSet 16 = .ok (.aload_n 0, 1) := by decide +kernel
theorem dX10_keptSet_17 : decode cX10_keptSet 17 = .ok (.iload_n 2, 1) := by decide +kernel
theorem dX10_keptSet_18 : decode cX10_keptSet 18 = .ok (.invokevirtual 331, 3) := by decide +kernel
theorem dX10_keptSet_21 : decode cX10_keptSet 21 = .ok (.ifCond .eq 9, 3) := by decide +kernel
theorem dX10_keptSet_24 : decode cX10_keptSet 24 = .ok (.iconst 1, 1) := by decide +kernel
theorem dX10_keptSet_25 : decode cX10_keptSet 25 = .ok (.iload_n 2, 1) := by decide +kernel
theorem dX10_keptSet_26 : decode cX10_keptSet 26 = .ok (.ishl, 1) := by decide +kernel
theorem dX10_keptSet_27 : decode cX10_keptSet 27 = .ok (.goto 4, 3) := by decide +kernel
theorem dX10_keptSet_30 : decode cX10_keptSet 30 = .ok (.iconst 0, 1) := by decide +kernel
theorem dX10_keptSet_31 : decode cX10_keptSet 31 = .ok (.ior, 1) := by decide +kernel
theorem dX10_keptSet_32 : decode cX10_keptSet 32 = .ok (.istore_n 1, 1) := by decide +kernel
theorem dX10_keptSet_33 : decode cX10_keptSet 33 = .ok (.iinc 2 1, 3) := by decide +kernel
theorem dX10_keptSet_36 : decode cX10_keptSet 36 = .ok (.goto (-32), 3) := by decide +kernel
theorem dX10_keptSet_39 : decode cX10_keptSet 39 = .ok (.iload_n 1, 1) := by decide +kernel
theorem dX10_keptSet_40 : decode cX10_keptSet 40 = .ok (.ireturn, 1) := by decide +kernel
theorem dX10_keptMany_0 : decode cX10_keptMany 0 = .ok (.aload_n 0, 1) := by decide +kernel
theorem dX10_keptMany_1 : decode cX10_keptMany 1 = .ok (.invokevirtual 334, 3) := by decide +kernel
theorem dX10_keptMany_4 : decode cX10_keptMany 4 = .ok (.invokestatic 337, 3) := by decide +kernel
theorem dX10_keptMany_7 : decode cX10_keptMany 7 = .ok (.ireturn, 1) := by decide +kernel
theorem dX10_kept_0 : decode cX10_kept 0 = .ok (.aload_n 0, 1) := by decide +kernel
theorem dX10_kept_1 : decode cX10_kept 1 = .ok (.invokevirtual 285, 3) := by decide +kernel
theorem dX10_kept_4 : decode cX10_kept 4 = .ok (.pop, 1) := by decide +kernel
theorem dX10_kept_5 : decode cX10_kept 5 = .ok (.aload_n 0, 1) := by decide +kernel
theorem dX10_kept_6 : decode cX10_kept 6 = .ok (.iload_n 1, 1) := by decide +kernel
theorem dX10_kept_7 : decode cX10_kept 7 = .ok (.invokevirtual 239, 3) := by decide +kernel
theorem dX10_kept_10 : decode cX10_kept 10 = .ok (.ifCond .eq 19, 3) := by decide +kernel
theorem dX10_kept_13 : decode cX10_kept 13 = .ok (.aload_n 0, 1) := by decide +kernel
theorem dX10_kept_14 : decode cX10_kept 14 = .ok (.iload_n 1, 1) := by decide +kernel
theorem dX10_kept_15 : decode cX10_kept 15 = .ok (.invokevirtual 331, 3) := by decide +kernel
theorem dX10_kept_18 : decode cX10_kept 18 = .ok (.ifCond .eq 7, 3) := by decide +kernel
theorem dX10_kept_21 : decode cX10_kept 21 = .ok (.iconst 1, 1) := by decide +kernel
theorem dX10_kept_22 : decode cX10_kept 22 = .ok (.goto 9, 3) := by decide +kernel
theorem dX10_kept_25 : decode cX10_kept 25 = .ok (.iconst 0, 1) := by decide +kernel
theorem dX10_kept_26 : decode cX10_kept 26 = .ok (.goto 5, 3) := by decide +kernel
theorem dX10_kept_29 : decode cX10_kept 29 = .ok (.bipush (-2), 2) := by decide +kernel
theorem dX10_kept_31 : decode cX10_kept 31 = .ok (.ireturn, 1) := by decide +kernel
theorem dX10_keeps_0 : decode cX10_keeps 0 = .ok (.aload_n 0, 1) := by decide +kernel
theorem dX10_keeps_1 : decode cX10_keeps 1 = .ok (.invokevirtual 285, 3) := by decide +kernel
theorem dX10_keeps_4 : decode cX10_keeps 4 = .ok (.ifCond .eq 10, 3) := by decide +kernel
theorem dX10_keeps_7 : decode cX10_keeps 7 = .ok (.aload_n 0, 1) := by decide +kernel
theorem dX10_keeps_8 : decode cX10_keeps 8 = .ok (.invokevirtual 334, 3) := by decide +kernel
theorem dX10_keeps_11 : decode cX10_keeps 11 = .ok (.goto 5, 3) := by decide +kernel
theorem dX10_keeps_14 : decode cX10_keeps 14 = .ok (.bipush (-2), 2) := by decide +kernel
theorem dX10_keeps_16 : decode cX10_keeps 16 = .ok (.ireturn, 1) := by decide +kernel
theorem dX10_hinders_0 : decode cX10_hinders 0 = .ok (.aload_n 0, 1) := by decide +kernel
theorem dX10_hinders_1 : decode cX10_hinders 1 = .ok (.invokevirtual 285, 3) := by decide +kernel
theorem dX10_hinders_4 : decode cX10_hinders 4 = .ok (.pop, 1) := by decide +kernel
theorem dX10_hinders_5 : decode cX10_hinders 5 = .ok (.aload_n 0, 1) := by decide +kernel
theorem dX10_hinders_6 : decode cX10_hinders 6 = .ok (.iload_n 1, 1) := by decide +kernel
theorem dX10_hinders_7 : decode cX10_hinders 7 = .ok (.invokevirtual 239, 3) := by decide +kernel
theorem dX10_hinders_10 : decode cX10_hinders 10 = .ok (.ifCond .ne 6, 3) := by decide +kernel
theorem dX10_hinders_13 : decode cX10_hinders 13 = .ok (.bipush (-2), 2) := by decide +kernel
theorem dX10_hinders_15 : decode cX10_hinders 15 = .ok (.ireturn, 1) := by decide +kernel
theorem dX10_hinders_16 : decode cX10_hinders 16 = .ok (.aload_n 0, 1) := by decide +kernel
theorem dX10_hinders_17 : decode cX10_hinders 17 = .ok (.aload_n 0, 1) := by decide +kernel
theorem dX10_hinders_18 : decode cX10_hinders 18 = .ok (.iload_n 1, 1) := by decide +kernel
theorem dX10_hinders_19 : decode cX10_hinders 19 = .ok (.iconst 2, 1) := by decide +kernel
theorem dX10_hinders_20 : decode cX10_hinders 20 = .ok (.invokevirtual 243, 3) := by decide +kernel
theorem dX10_hinders_23 : decode cX10_hinders 23 = .ok (.i2l, 1) := by decide +kernel
theorem dX10_hinders_24 : decode cX10_hinders 24 = .ok (.invokevirtual 288, 3) := by decide +kernel
theorem dX10_hinders_27 : decode cX10_hinders 27 = .ok (.ifCond .ne 5, 3) := by decide +kernel
theorem dX10_hinders_30 : decode cX10_hinders 30 = .ok (.iconst 0, 1) := by decide +kernel
theorem dX10_hinders_31 : decode cX10_hinders 31 = .ok (.ireturn, 1) := by decide +kernel
theorem dX10_hinders_32 : decode cX10_hinders 32 = .ok (.aload_n 0, 1) := by decide +kernel
theorem dX10_hinders_33 : decode cX10_hinders 33 = .ok (.iload_n 1, 1) := by decide +kernel
theorem dX10_hinders_34 : decode cX10_hinders 34 = .ok (.iconst 0, 1) := by decide +kernel
theorem dX10_hinders_35 : decode cX10_hinders 35 = .ok (.invokevirtual 243, 3) := by decide +kernel
theorem dX10_hinders_38 : decode cX10_hinders 38 = .ok (.istore_n 2, 1) := by decide +kernel
theorem dX10_hinders_39 : decode cX10_hinders 39 = .ok (.aload_n 0, 1) := by decide +kernel
theorem dX10_hinders_40 : decode cX10_hinders 40 = .ok (.iload_n 1, 1) := by decide +kernel
theorem dX10_hinders_41 : decode cX10_hinders 41 = .ok (.iconst 1, 1) := by decide +kernel
theorem dX10_hinders_42 : decode cX10_hinders 42 = .ok (.invokevirtual 243, 3) := by decide +kernel
theorem dX10_hinders_45 : decode cX10_hinders 45 = .ok (.istore_n 3, 1) := by decide +kernel
theorem dX10_hinders_46 : decode cX10_hinders 46 = .ok (.aload_n 0, 1) := by decide +kernel
theorem dX10_hinders_47 : decode cX10_hinders 47 = .ok (.iload_n 2, 1) := by decide +kernel
theorem dX10_hinders_48 : decode cX10_hinders 48 = .ok (.iload_n 2, 1) := by decide +kernel
theorem dX10_hinders_49 : decode cX10_hinders 49 = .ok (.aload_n 0, 1) := by decide +kernel
theorem dX10_hinders_50 : decode cX10_hinders 50 = .ok (.iload_n 1, 1) := by decide +kernel
theorem dX10_hinders_51 : decode cX10_hinders 51 = .ok (.iconst 2, 1) := by decide +kernel
theorem dX10_hinders_52 : decode cX10_hinders 52 = .ok (.invokevirtual 243, 3) := by decide +kernel
theorem dX10_hinders_55 : decode cX10_hinders 55 = .ok (.invokevirtual 303, 3) := by decide +kernel
theorem dX10_hinders_58 : decode cX10_hinders 58 = .ok (.ifCond .eq 7, 3) := by decide +kernel
theorem dX10_hinders_61 : decode cX10_hinders 61 = .ok (.iconst 0, 1) := by decide +kernel
theorem dX10_hinders_62 : decode cX10_hinders 62 = .ok (.goto 6, 3) := by decide +kernel
theorem dX10_hinders_65 : decode cX10_hinders 65 = .ok (.iconst 1, 1) := by decide +kernel
theorem dX10_hinders_66 : decode cX10_hinders 66 = .ok (.iload_n 2, 1) := by decide +kernel
theorem dX10_hinders_67 : decode cX10_hinders 67 = .ok (.ishl, 1) := by decide +kernel
theorem dX10_hinders_68 : decode cX10_hinders 68 = .ok (.aload_n 0, 1) := by decide +kernel
theorem dX10_hinders_69 : decode cX10_hinders 69 = .ok (.iload_n 2, 1) := by decide +kernel
theorem dX10_hinders_70 : decode cX10_hinders 70 = .ok (.iload_n 3, 1) := by decide +kernel
theorem dX10_hinders_71 : decode cX10_hinders 71 = .ok (.aload_n 0, 1) := by decide +kernel
theorem dX10_hinders_72 : decode cX10_hinders 72 = .ok (.iload_n 1, 1) := by decide +kernel
theorem dX10_hinders_73 : decode cX10_hinders 73 = .ok (.iconst 2, 1) := by decide +kernel
theorem dX10_hinders_74 : decode cX10_hinders 74 = .ok (.invokevirtual 243, 3) := by decide +kernel
theorem dX10_hinders_77 : decode cX10_hinders 77 = .ok (.invokevirtual 303, 3) := by decide +kernel
theorem dX10_hinders_80 : decode cX10_hinders 80 = .ok (.ifCond .eq 7, 3) := by decide +kernel
theorem dX10_hinders_83 : decode cX10_hinders 83 = .ok (.iconst 0, 1) := by decide +kernel
theorem dX10_hinders_84 : decode cX10_hinders 84 = .ok (.goto 6, 3) := by decide +kernel
theorem dX10_hinders_87 : decode cX10_hinders 87 = .ok (.iconst 1, 1) := by decide +kernel
theorem dX10_hinders_88 : decode cX10_hinders 88 = .ok (.iload_n 3, 1) := by decide +kernel
theorem dX10_hinders_89 : decode cX10_hinders 89 = .ok (.ishl, 1) := by decide +kernel
theorem dX10_hinders_90 : decode cX10_hinders 90 = .ok (.ior, 1) := by decide +kernel
theorem dX10_hinders_91 : decode cX10_hinders 91 = .ok (.ireturn, 1) := by decide +kernel
theorem dX10_keptOf_0 : decode cX10_keptOf 0 = .ok (.iconst 0, 1) := by decide +kernel
theorem dX10_keptOf_1 : decode cX10_keptOf 1 = .ok (.istore_n 3, 1) := by decide +kernel
theorem dX10_keptOf_2 : decode cX10_keptOf 2 = .ok (.iconst 0, 1) := by decide +kernel
theorem dX10_keptOf_3 : decode cX10_keptOf 3 = .ok (.istore 4, 2) := by decide +kernel
theorem dX10_keptOf_5 : decode cX10_keptOf 5 = .ok (.iload 4, 2) := by decide +kernel
theorem dX10_keptOf_7 : decode cX10_keptOf 7 = .ok (.aload_n 0, 1) := by decide +kernel
theorem dX10_keptOf_8 : decode cX10_keptOf 8 = .ok (.getfield 9, 3) := by decide +kernel
theorem dX10_keptOf_11 : decode cX10_keptOf 11 = .ok (.bipush 7, 2) := by decide +kernel
theorem dX10_keptOf_13 : decode cX10_keptOf 13 = .ok (.iaload, 1) := by decide +kernel
theorem dX10_keptOf_14 : decode cX10_keptOf 14 = .ok (.if_icmp .ge 37, 3) := by decide +kernel
theorem dX10_keptOf_17 : decode cX10_keptOf 17 = .ok (.iload_n 3, 1) := by decide +kernel
theorem dX10_keptOf_18 : decode cX10_keptOf 18 = .ok (.aload_n 0, 1) := by decide +kernel
theorem dX10_keptOf_19 : decode cX10_keptOf 19 = .ok (.iload 4, 2) := by decide +kernel
theorem dX10_keptOf_21 : decode cX10_keptOf 21 = .ok (.iload_n 2, 1) := by decide +kernel
theorem dX10_keptOf_22 : decode cX10_keptOf 22 = .ok (.invokevirtual 243, 3) := by decide +kernel
theorem dX10_keptOf_25 : decode cX10_keptOf 25 = .ok (.iload_n 1, 1) := by decide +kernel
theorem dX10_keptOf_26 : decode cX10_keptOf 26 = .ok (.if_icmp .ne 16, 3) := by decide +kernel
theorem dX10_keptOf_29 : decode cX10_keptOf 29 = .ok (.aload_n 0, 1) := by decide +kernel
theorem dX10_keptOf_30 : decode cX10_keptOf 30 = .ok (.iload 4, 2) := by decide +kernel
theorem dX10_keptOf_32 : decode cX10_keptOf 32 = .ok (.invokevirtual 331, 3) := by decide +kernel
theorem dX10_keptOf_35 : decode cX10_keptOf 35 = .ok (.ifCond .eq 7, 3) := by decide +kernel
theorem dX10_keptOf_38 : decode cX10_keptOf 38 = .ok (.iconst 1, 1) := by decide +kernel
theorem dX10_keptOf_39 : decode cX10_keptOf 39 = .ok (.goto 4, 3) := by decide +kernel
theorem dX10_keptOf_42 : decode cX10_keptOf 42 = .ok (.iconst 0, 1) := by decide +kernel
theorem dX10_keptOf_43 : decode cX10_keptOf 43 = .ok (.iadd, 1) := by decide +kernel
theorem dX10_keptOf_44 : decode cX10_keptOf 44 = .ok (.istore_n 3, 1) := by decide +kernel
theorem dX10_keptOf_45 : decode cX10_keptOf 45 = .ok (.iinc 4 1, 3) := by decide +kernel
theorem dX10_keptOf_48 : decode cX10_keptOf 48 = .ok (.goto (-43), 3) := by decide +kernel
theorem dX10_keptOf_51 : decode cX10_keptOf 51 = .ok (.iload_n 3, 1) := by decide +kernel
theorem dX10_keptOf_52 : decode cX10_keptOf 52 = .ok (.ireturn, 1) := by decide +kernel
theorem dX10_hosts_0 : decode cX10_hosts 0 = .ok (.aload_n 0, 1) := by decide +kernel
theorem dX10_hosts_1 : decode cX10_hosts 1 = .ok (.iload_n 1, 1) := by decide +kernel
theorem dX10_hosts_2 : decode cX10_hosts 2 = .ok (.invokevirtual 297, 3) := by decide +kernel
theorem dX10_hosts_5 : decode cX10_hosts 5 = .ok (.ifCond .eq 12, 3) := by decide +kernel
theorem dX10_hosts_8 : decode cX10_hosts 8 = .ok (.aload_n 0, 1) := by decide +kernel
theorem dX10_hosts_9 : decode cX10_hosts 9 = .ok (.iload_n 1, 1) := by decide +kernel
theorem dX10_hosts_10 : decode cX10_hosts 10 = .ok (.iconst 1, 1) := by decide +kernel
theorem dX10_hosts_11 : decode cX10_hosts 11 = .ok (.invokevirtual 340, 3) := by decide +kernel
theorem dX10_hosts_14 : decode cX10_hosts 14 = .ok (.goto 5, 3) := by decide +kernel
theorem dX10_hosts_17 : decode cX10_hosts 17 = .ok (.bipush (-2), 2) := by decide +kernel
theorem dX10_hosts_19 : decode cX10_hosts 19 = .ok (.ireturn, 1) := by decide +kernel
theorem dX10_goes_0 : decode cX10_goes 0 = .ok (.aload_n 0, 1) := by decide +kernel
theorem dX10_goes_1 : decode cX10_goes 1 = .ok (.iload_n 1, 1) := by decide +kernel
theorem dX10_goes_2 : decode cX10_goes 2 = .ok (.invokevirtual 297, 3) := by decide +kernel
theorem dX10_goes_5 : decode cX10_goes 5 = .ok (.ifCond .eq 12, 3) := by decide +kernel
theorem dX10_goes_8 : decode cX10_goes 8 = .ok (.aload_n 0, 1) := by decide +kernel
theorem dX10_goes_9 : decode cX10_goes 9 = .ok (.iload_n 1, 1) := by decide +kernel
theorem dX10_goes_10 : decode cX10_goes 10 = .ok (.iconst 0, 1) := by decide +kernel
theorem dX10_goes_11 : decode cX10_goes 11 = .ok (.invokevirtual 340, 3) := by decide +kernel
theorem dX10_goes_14 : decode cX10_goes 14 = .ok (.goto 5, 3) := by decide +kernel
theorem dX10_goes_17 : decode cX10_goes 17 = .ok (.bipush (-2), 2) := by decide +kernel
theorem dX10_goes_19 : decode cX10_goes 19 = .ok (.ireturn, 1) := by decide +kernel
theorem dX10_host_0 : decode cX10_host 0 = .ok (.aload_n 0, 1) := by decide +kernel
theorem dX10_host_1 : decode cX10_host 1 = .ok (.invokevirtual 285, 3) := by decide +kernel
theorem dX10_host_4 : decode cX10_host 4 = .ok (.ifCond .ne 6, 3) := by decide +kernel
theorem dX10_host_7 : decode cX10_host 7 = .ok (.bipush (-2), 2) := by decide +kernel
theorem dX10_host_9 : decode cX10_host 9 = .ok (.ireturn, 1) := by decide +kernel
theorem dX10_host_10 : decode cX10_host 10 = .ok (.iconst (-1), 1) := by decide +kernel
theorem dX10_host_11 : decode cX10_host 11 = .ok (.istore_n 1, 1) := by decide +kernel
theorem dX10_host_12 : decode cX10_host 12 = .ok (.iconst 0, 1) := by decide +kernel
theorem dX10_host_13 : decode cX10_host 13 = .ok (.istore_n 2, 1) := by decide +kernel
theorem dX10_host_14 : decode cX10_host 14 = .ok (.iload_n 2, 1) := by decide +kernel
theorem dX10_host_15 : decode cX10_host 15 = .ok (.aload_n 0, 1) := by decide +kernel
theorem dX10_host_16 : decode cX10_host 16 = .ok (.invokevirtual 261, 3) := by decide +kernel
theorem dX10_host_19 : decode cX10_host 19 = .ok (.if_icmp .ge 35, 3) := by decide +kernel
theorem dX10_host_22 : decode cX10_host 22 = .ok (.aload_n 0, 1) := by decide +kernel
theorem dX10_host_23 : decode cX10_host 23 = .ok (.iload_n 2, 1) := by decide +kernel
theorem dX10_host_24 : decode cX10_host 24 = .ok (.iconst 1, 1) := by decide +kernel
theorem dX10_host_25 : decode cX10_host 25 = .ok (.invokevirtual 340, 3) := by decide +kernel
theorem dX10_host_28 : decode cX10_host 28 = .ok (.iload_n 1, 1) := by decide +kernel
theorem dX10_host_29 : decode cX10_host 29 = .ok (.iconst (-1), 1) := by decide +kernel
theorem dX10_host_30 : decode cX10_host 30 = .ok (.if_icmp .ne 7, 3) := by decide +kernel
theorem dX10_host_33 : decode cX10_host 33 = .ok (.iconst 0, 1) := by decide +kernel
theorem dX10_host_34 : decode cX10_host 34 = .ok (.goto 9, 3) := by decide +kernel
theorem dX10_host_37 : decode cX10_host 37 = .ok (.aload_n 0, 1) := by decide +kernel
theorem dX10_host_38 : decode cX10_host 38 = .ok (.iload_n 1, 1) := by decide +kernel
theorem dX10_host_39 : decode cX10_host 39 = .ok (.iconst 1, 1) := by decide +kernel
theorem dX10_host_40 : decode cX10_host 40 = .ok (.invokevirtual 340, 3) := by decide +kernel
theorem dX10_host_43 : decode cX10_host 43 = .ok (.if_icmp .le 5, 3) := by decide +kernel
theorem dX10_host_46 : decode cX10_host 46 = .ok (.iload_n 2, 1) := by decide +kernel
theorem dX10_host_47 : decode cX10_host 47 = .ok (.istore_n 1, 1) := by decide +kernel
theorem dX10_host_48 : decode cX10_host 48 = .ok (.iinc 2 1, 3) := by decide +kernel
theorem dX10_host_51 : decode cX10_host 51 = .ok (.goto (-37), 3) := by decide +kernel
theorem dX10_host_54 : decode cX10_host 54 = .ok (.iload_n 1, 1) := by decide +kernel
theorem dX10_host_55 : decode cX10_host 55 = .ok (.ireturn, 1) := by decide +kernel
theorem dX10_idle_0 : decode cX10_idle 0 = .ok (.aload_n 0, 1) := by decide +kernel
theorem dX10_idle_1 : decode cX10_idle 1 = .ok (.invokevirtual 285, 3) := by decide +kernel
theorem dX10_idle_4 : decode cX10_idle 4 = .ok (.ifCond .ne 6, 3) := by decide +kernel
theorem dX10_idle_7 : decode cX10_idle 7 = .ok (.bipush (-2), 2) := by decide +kernel
theorem dX10_idle_9 : decode cX10_idle 9 = .ok (.ireturn, 1) := by decide +kernel
theorem dX10_idle_10 : decode cX10_idle 10 = .ok (.aload_n 0, 1) := by decide +kernel
theorem dX10_idle_11 : decode cX10_idle 11 = .ok (.invokevirtual 343, 3) := by decide +kernel
theorem dX10_idle_14 : decode cX10_idle 14 = .ok (.istore_n 1, 1) := by decide +kernel
theorem dX10_idle_15 : decode cX10_idle 15 = .ok (.iconst 0, 1) := by decide +kernel
theorem dX10_idle_16 : decode cX10_idle 16 = .ok (.istore_n 2, 1) := by decide +kernel
theorem dX10_idle_17 : decode cX10_idle 17 = .ok (.iconst 0, 1) := by decide +kernel
theorem dX10_idle_18 : decode cX10_idle 18 = .ok (.istore_n 3, 1) := by decide +kernel
theorem dX10_idle_19 : decode cX10_idle 19 = .ok (.iload_n 3, 1) := by decide +kernel
theorem dX10_idle_20 : decode cX10_idle 20 = .ok (.aload_n 0, 1) := by decide +kernel
theorem dX10_idle_21 : decode cX10_idle 21 = .ok (.getfield 9, 3) := by decide +kernel
theorem dX10_idle_24 : decode cX10_idle 24 = .ok (.iconst 4, 1) := by decide +kernel
theorem dX10_idle_25 : decode cX10_idle 25 = .ok (.iaload, 1) := by decide +kernel
theorem dX10_idle_26 : decode cX10_idle 26 = .ok (.if_icmp .ge 50, 3) := by decide +kernel
theorem dX10_idle_29 : decode cX10_idle 29 = .ok (.aload_n 0, 1) := by decide +kernel
theorem dX10_idle_30 : decode cX10_idle 30 = .ok (.getfield 43, 3) := by decide +kernel
theorem dX10_idle_33 : decode cX10_idle 33 = .ok (.iload_n 3, 1) := by decide +kernel
theorem dX10_idle_34 : decode cX10_idle 34 = .ok (.iaload, 1) := by decide +kernel
theorem dX10_idle_35 : decode cX10_idle 35 = .ok (.istore 4, 2) := by decide +kernel
theorem dX10_idle_37 : decode cX10_idle 37 = .ok (.aload_n 0, 1) := by decide +kernel
theorem dX10_idle_38 : decode cX10_idle 38 = .ok (.getfield 43, 3) := by decide +kernel
theorem dX10_idle_41 : decode cX10_idle 41 = .ok (.iload_n 3, 1) := by decide +kernel
theorem dX10_idle_42 : decode cX10_idle 42 = .ok (.iconst (-1), 1) := by decide +kernel
theorem dX10_idle_43 : decode cX10_idle 43 = .ok (.iastore, 1) := by decide +kernel
theorem dX10_idle_44 : decode cX10_idle 44 = .ok (.iload_n 2, 1) := by decide +kernel
theorem dX10_idle_45 : decode cX10_idle 45 = .ok (.aload_n 0, 1) := by decide +kernel
theorem dX10_idle_46 : decode cX10_idle 46 = .ok (.invokevirtual 343, 3) := by decide +kernel
theorem dX10_idle_49 : decode cX10_idle 49 = .ok (.iload_n 1, 1) := by decide +kernel
theorem dX10_idle_50 : decode cX10_idle 50 = .ok (.if_icmp .ne 9, 3) := by decide +kernel
theorem dX10_idle_53 : decode cX10_idle 53 = .ok (.iconst 1, 1) := by decide +kernel
theorem dX10_idle_54 : decode cX10_idle 54 = .ok (.iload_n 3, 1) := by decide +kernel
theorem dX10_idle_55 : decode cX10_idle 55 = .ok (.ishl, 1) := by decide +kernel
theorem dX10_idle_56 : decode cX10_idle 56 = .ok (.goto 4, 3) := by decide +kernel
theorem dX10_idle_59 : decode cX10_idle 59 = .ok (.iconst 0, 1) := by decide +kernel
theorem dX10_idle_60 : decode cX10_idle 60 = .ok (.ior, 1) := by decide +kernel
theorem dX10_idle_61 : decode cX10_idle 61 = .ok (.istore_n 2, 1) := by decide +kernel
theorem dX10_idle_62 : decode cX10_idle 62 = .ok (.aload_n 0, 1) := by decide +kernel
theorem dX10_idle_63 : decode cX10_idle 63 = .ok (.getfield 43, 3) := by decide +kernel
theorem dX10_idle_66 : decode cX10_idle 66 = .ok (.iload_n 3, 1) := by decide +kernel
theorem dX10_idle_67 : decode cX10_idle 67 = .ok (.iload 4, 2) := by decide +kernel
theorem dX10_idle_69 : decode cX10_idle 69 = .ok (.iastore, 1) := by decide +kernel
theorem dX10_idle_70 : decode cX10_idle 70 = .ok (.iinc 3 1, 3) := by decide +kernel
theorem dX10_idle_73 : decode cX10_idle 73 = .ok (.goto (-54), 3) := by decide +kernel
theorem dX10_idle_76 : decode cX10_idle 76 = .ok (.iload_n 2, 1) := by decide +kernel
theorem dX10_idle_77 : decode cX10_idle 77 = .ok (.ireturn, 1) := by decide +kernel
theorem dX10_nextRow_0 : decode cX10_nextRow 0 = .ok (.aload_n 0, 1) := by decide +kernel
theorem dX10_nextRow_1 : decode cX10_nextRow 1 = .ok (.getfield 9, 3) := by decide +kernel
theorem dX10_nextRow_4 : decode cX10_nextRow 4 = .ok (.iconst 4, 1) := by decide +kernel
theorem dX10_nextRow_5 : decode cX10_nextRow 5 = .ok (.iaload, 1) := by decide +kernel
theorem dX10_nextRow_6 : decode cX10_nextRow 6 = .ok (.iconst 1, 1) := by decide +kernel
theorem dX10_nextRow_7 : decode cX10_nextRow 7 = .ok (.isub, 1) := by decide +kernel
theorem dX10_nextRow_8 : decode cX10_nextRow 8 = .ok (.istore_n 1, 1) := by decide +kernel
theorem dX10_nextRow_9 : decode cX10_nextRow 9 = .ok (.iload_n 1, 1) := by decide +kernel
theorem dX10_nextRow_10 : decode cX10_nextRow 10 = .ok (.ifCond .lt 43, 3) := by decide +kernel
theorem dX10_nextRow_13 : decode cX10_nextRow 13 = .ok (.aload_n 0, 1) := by decide +kernel
theorem dX10_nextRow_14 : decode cX10_nextRow 14 = .ok (.getfield 43, 3) := by decide +kernel
theorem dX10_nextRow_17 : decode cX10_nextRow 17 = .ok (.iload_n 1, 1) := by decide +kernel
theorem dX10_nextRow_18 : decode cX10_nextRow 18 = .ok (.iaload, 1) := by decide +kernel
theorem dX10_nextRow_19 : decode cX10_nextRow 19 = .ok (.aload_n 0, 1) := by decide +kernel
theorem dX10_nextRow_20 : decode cX10_nextRow 20 = .ok (.invokevirtual 261, 3) := by decide +kernel
theorem dX10_nextRow_23 : decode cX10_nextRow 23 = .ok (.iconst 1, 1) := by decide +kernel
theorem dX10_nextRow_24 : decode cX10_nextRow 24 = .ok (.isub, 1) := by decide +kernel
theorem dX10_nextRow_25 : decode cX10_nextRow 25 = .ok (.if_icmp .ge 15, 3) := by decide +kernel
theorem dX10_nextRow_28 : decode cX10_nextRow 28 = .ok (.aload_n 0, 1) := by decide +kernel
theorem dX10_nextRow_29 : decode cX10_nextRow 29 = .ok (.getfield 43, 3) := by decide +kernel
theorem dX10_nextRow_32 : decode cX10_nextRow 32 = .ok (.iload_n 1, 1) := by decide +kernel
theorem dX10_nextRow_33 : decode cX10_nextRow 33 = .ok (.dup2, 1) := by decide +kernel
theorem dX10_nextRow_34 : decode cX10_nextRow 34 = .ok (.iaload, 1) := by decide +kernel
theorem dX10_nextRow_35 : decode cX10_nextRow 35 = .ok (.iconst 1, 1) := by decide +kernel
theorem dX10_nextRow_36 : decode cX10_nextRow 36 = .ok (.iadd, 1) := by decide +kernel
theorem dX10_nextRow_37 : decode cX10_nextRow 37 = .ok (.iastore, 1) := by decide +kernel
theorem dX10_nextRow_38 : decode cX10_nextRow 38 = .ok (.iconst 1, 1) := by decide +kernel
theorem dX10_nextRow_39 : decode cX10_nextRow 39 = .ok (.ireturn, 1) := by decide +kernel
theorem dX10_nextRow_40 : decode cX10_nextRow 40 = .ok (.aload_n 0, 1) := by decide +kernel
theorem dX10_nextRow_41 : decode cX10_nextRow 41 = .ok (.getfield 43, 3) := by decide +kernel
theorem dX10_nextRow_44 : decode cX10_nextRow 44 = .ok (.iload_n 1, 1) := by decide +kernel
theorem dX10_nextRow_45 : decode cX10_nextRow 45 = .ok (.iconst (-1), 1) := by decide +kernel
theorem dX10_nextRow_46 : decode cX10_nextRow 46 = .ok (.iastore, 1) := by decide +kernel
theorem dX10_nextRow_47 : decode cX10_nextRow 47 = .ok (.iinc 1 (-1), 3) := by decide +kernel
theorem dX10_nextRow_50 : decode cX10_nextRow 50 = .ok (.goto (-41), 3) := by decide +kernel
theorem dX10_nextRow_53 : decode cX10_nextRow 53 = .ok (.iconst 0, 1) := by decide +kernel
theorem dX10_nextRow_54 : decode cX10_nextRow 54 = .ok (.ireturn, 1) := by decide +kernel
theorem dX10_asksRows_0 : decode cX10_asksRows 0 = .ok (.aload_n 0, 1) := by decide +kernel
theorem dX10_asksRows_1 : decode cX10_asksRows 1 = .ok (.invokevirtual 285, 3) := by decide +kernel
theorem dX10_asksRows_4 : decode cX10_asksRows 4 = .ok (.ifCond .ne 5, 3) := by decide +kernel
theorem dX10_asksRows_7 : decode cX10_asksRows 7 = .ok (.iconst 0, 1) := by decide +kernel
theorem dX10_asksRows_8 : decode cX10_asksRows 8 = .ok (.ireturn, 1) := by decide +kernel
theorem dX10_asksRows_9 : decode cX10_asksRows 9 = .ok (.iconst 0, 1) := by decide +kernel
theorem dX10_asksRows_10 : decode cX10_asksRows 10 = .ok (.istore_n 1, 1) := by decide +kernel
theorem dX10_asksRows_11 : decode cX10_asksRows 11 = .ok (.iload_n 1, 1) := by decide +kernel
theorem dX10_asksRows_12 : decode cX10_asksRows 12 = .ok (.iconst 5, 1) := by decide +kernel
theorem dX10_asksRows_13 : decode cX10_asksRows 13 = .ok (.if_icmp .ge 16, 3) := by decide +kernel
theorem dX10_asksRows_16 : decode cX10_asksRows 16 = .ok (.aload_n 0, 1) := by decide +kernel
theorem dX10_asksRows_17 : decode cX10_asksRows 17 = .ok (.getfield 43, 3) := by decide +kernel
theorem dX10_asksRows_20 : decode cX10_asksRows 20 = .ok (.iload_n 1, 1) := by decide +kernel
theorem dX10_asksRows_21 : decode cX10_asksRows 21 = .ok (.iconst (-1), 1) := by decide +kernel
theorem dX10_asksRows_22 : decode cX10_asksRows 22 = .ok (.iastore, 1) := by decide +kernel
theorem dX10_asksRows_23 : decode cX10_asksRows 23 = .ok (.iinc 1 1, 3) := by decide +kernel
theorem dX10_asksRows_26 : decode cX10_asksRows 26 = .ok (.goto (-15), 3) := by decide +kernel
theorem dX10_asksRows_29 : decode cX10_asksRows 29 = .ok (.aload_n 0, 1) := by decide +kernel
theorem dX10_asksRows_30 : decode cX10_asksRows 30 = .ok (.iconst (-1), 1) := by decide +kernel
theorem dX10_asksRows_31 : decode cX10_asksRows 31 = .ok (.putfield 346, 3) := by decide +kernel
theorem dX10_asksRows_34 : decode cX10_asksRows 34 = .ok (.aload_n 0, 1) := by decide +kernel
theorem dX10_asksRows_35 : decode cX10_asksRows 35 = .ok (.iconst 0, 1) := by decide +kernel
theorem dX10_asksRows_36 : decode cX10_asksRows 36 = .ok (.putfield 349, 3) := by decide +kernel
theorem dX10_asksRows_39 : decode cX10_asksRows 39 = .ok (.iconst 1, 1) := by decide +kernel
theorem dX10_asksRows_40 : decode cX10_asksRows 40 = .ok (.istore_n 1, 1) := by decide +kernel
theorem dX10_asksRows_41 : decode cX10_asksRows 41 = .ok (.iload_n 1, 1) := by decide +kernel
theorem dX10_asksRows_42 : decode cX10_asksRows 42 = .ok (.ifCond .eq 88, 3) := by decide +kernel
theorem dX10_asksRows_45 : decode cX10_asksRows 45 = .ok (.aload_n 0, 1) := by decide +kernel
theorem dX10_asksRows_46 : decode cX10_asksRows 46 = .ok (.invokevirtual 343, 3) := by decide +kernel
theorem dX10_asksRows_49 : decode cX10_asksRows 49 = .ok (.istore_n 2, 1) := by decide +kernel
theorem dX10_asksRows_50 : decode cX10_asksRows 50 = .ok (.iload_n 2, 1) := by decide +kernel
theorem dX10_asksRows_51 : decode cX10_asksRows 51 = .ok (.aload_n 0, 1) := by decide +kernel
theorem dX10_asksRows_52 : decode cX10_asksRows 52 = .ok (.getfield 346, 3) := by decide +kernel
theorem dX10_asksRows_55 : decode cX10_asksRows 55 = .ok (.if_icmp .le 33, 3) := by decide +kernel
theorem dX10_asksRows_58 : decode cX10_asksRows 58 = .ok (.aload_n 0, 1) := by decide +kernel
theorem dX10_asksRows_59 : decode cX10_asksRows 59 = .ok (.iconst 0, 1) := by decide +kernel
theorem dX10_asksRows_60 : decode cX10_asksRows 60 = .ok (.putfield 349, 3) := by decide +kernel
theorem dX10_asksRows_63 : decode cX10_asksRows 63 = .ok (.iconst 0, 1) := by decide +kernel
theorem dX10_asksRows_64 : decode cX10_asksRows 64 = .ok (.istore_n 3, 1) := by decide +kernel
theorem dX10_asksRows_65 : decode cX10_asksRows 65 = .ok (.iload_n 3, 1) := by decide +kernel
theorem dX10_asksRows_66 : decode cX10_asksRows 66 = .ok (.iconst 5, 1) := by decide +kernel
theorem dX10_asksRows_67 : decode cX10_asksRows 67 = .ok (.if_icmp .ge 21, 3) := by decide +kernel
theorem dX10_asksRows_70 : decode cX10_asksRows 70 = .ok (.aload_n 0, 1) := by decide +kernel
theorem dX10_asksRows_71 : decode cX10_asksRows 71 = .ok (.getfield 70, 3) := by decide +kernel
theorem dX10_asksRows_74 : decode cX10_asksRows 74 = .ok (.iload_n 3, 1) := by decide +kernel
theorem dX10_asksRows_75 : decode cX10_asksRows 75 = .ok (.aload_n 0, 1) := by decide +kernel
theorem dX10_asksRows_76 : decode cX10_asksRows 76 = .ok (.getfield 43, 3) := by decide +kernel
theorem dX10_asksRows_79 : decode cX10_asksRows 79 = .ok (.iload_n 3, 1) := by decide +kernel
theorem dX10_asksRows_80 : decode cX10_asksRows 80 = .ok (.iaload, 1) := by decide +kernel
theorem dX10_asksRows_81 : decode cX10_asksRows 81 = .ok (.iastore, 1) := by decide +kernel
theorem dX10_asksRows_82 : decode cX10_asksRows 82 = .ok (.iinc 3 1, 3) := by decide +kernel
theorem dX10_asksRows_85 : decode cX10_asksRows 85 = .ok (.goto (-20), 3) := by decide +kernel
theorem dX10_asksRows_88 : decode cX10_asksRows 88 = .ok (.aload_n 0, 1) := by decide +kernel
theorem dX10_asksRows_89 : decode cX10_asksRows 89 = .ok (.aload_n 0, 1) := by decide +kernel
theorem dX10_asksRows_90 : decode cX10_asksRows 90 = .ok (.getfield 346, 3) := by decide +kernel
theorem dX10_asksRows_93 : decode cX10_asksRows 93 = .ok (.iload_n 2, 1) := by decide +kernel
theorem dX10_asksRows_94 : decode cX10_asksRows 94 = .ok (.invokestatic 255, 3) := by decide +kernel
theorem dX10_asksRows_97 : decode cX10_asksRows 97 = .ok (.putfield 346, 3) := by decide +kernel
theorem dX10_asksRows_100 : decode cX10_asksRows 100 = .ok (.aload_n 0, 1) := by decide +kernel
theorem dX10_asksRows_101 : decode cX10_asksRows 101 = .ok (.dup, 1) := by decide +kernel
theorem dX10_asksRows_102 : decode cX10_asksRows 102 = .ok (.getfield 349, 3) := by decide +kernel
theorem dX10_asksRows_105 : decode cX10_asksRows 105 = .ok (.iload_n 2, 1) := by decide +kernel
theorem dX10_asksRows_106 : decode cX10_asksRows 106 = .ok (.aload_n 0, 1) := by decide +kernel
theorem dX10_asksRows_107 : decode cX10_asksRows 107 = .ok (.getfield 346, 3) := by decide +kernel
theorem dX10_asksRows_110 : decode cX10_asksRows 110 = .ok (.if_icmp .ne 7, 3) := by decide +kernel
theorem dX10_asksRows_113 : decode cX10_asksRows 113 = .ok (.iconst 1, 1) := by decide +kernel
theorem dX10_asksRows_114 : decode cX10_asksRows 114 = .ok (.goto 4, 3) := by decide +kernel
theorem dX10_asksRows_117 : decode cX10_asksRows 117 = .ok (.iconst 0, 1) := by decide +kernel
theorem dX10_asksRows_118 : decode cX10_asksRows 118 = .ok (.iadd, 1) := by decide +kernel
theorem dX10_asksRows_119 : decode cX10_asksRows 119 = .ok (.putfield 349, 3) := by decide +kernel
theorem dX10_asksRows_122 : decode cX10_asksRows 122 = .ok (.aload_n 0, 1) := by decide +kernel
theorem dX10_asksRows_123 : decode cX10_asksRows 123 = .ok (.invokevirtual 352, 3) := by decide +kernel
theorem dX10_asksRows_126 : decode cX10_asksRows 126 = .ok (.istore_n 1, 1) := by decide +kernel
theorem dX10_asksRows_127 : decode cX10_asksRows 127 = .ok (.goto (-86), 3) := by decide +kernel
theorem dX10_asksRows_130 : decode cX10_asksRows 130 = .ok (.iconst 1, 1) := by decide +kernel
theorem dX10_asksRows_131 : decode cX10_asksRows 131 = .ok (.ireturn, 1) := by decide +kernel
theorem dX10_best_0 : decode cX10_best 0 = .ok (.aload_n 0, 1) := by decide +kernel
theorem dX10_best_1 : decode cX10_best 1 = .ok (.invokevirtual 355, 3) := by decide +kernel
theorem dX10_best_4 : decode cX10_best 4 = .ok (.ifCond .eq 10, 3) := by decide +kernel
theorem dX10_best_7 : decode cX10_best 7 = .ok (.aload_n 0, 1) := by decide +kernel
theorem dX10_best_8 : decode cX10_best 8 = .ok (.getfield 346, 3) := by decide +kernel
theorem dX10_best_11 : decode cX10_best 11 = .ok (.goto 5, 3) := by decide +kernel
theorem dX10_best_14 : decode cX10_best 14 = .ok (.bipush (-2), 2) := by decide +kernel
theorem dX10_best_16 : decode cX10_best 16 = .ok (.ireturn, 1) := by decide +kernel
theorem dX10_ways_0 : decode cX10_ways 0 = .ok (.aload_n 0, 1) := by decide +kernel
theorem dX10_ways_1 : decode cX10_ways 1 = .ok (.invokevirtual 355, 3) := by decide +kernel
theorem dX10_ways_4 : decode cX10_ways 4 = .ok (.ifCond .eq 10, 3) := by decide +kernel
theorem dX10_ways_7 : decode cX10_ways 7 = .ok (.aload_n 0, 1) := by decide +kernel
theorem dX10_ways_8 : decode cX10_ways 8 = .ok (.getfield 349, 3) := by decide +kernel
theorem dX10_ways_11 : decode cX10_ways 11 = .ok (.goto 5, 3) := by decide +kernel
theorem dX10_ways_14 : decode cX10_ways 14 = .ok (.bipush (-2), 2) := by decide +kernel
theorem dX10_ways_16 : decode cX10_ways 16 = .ok (.ireturn, 1) := by decide +kernel
theorem dX10_lay_0 : decode cX10_lay 0 = .ok (.iload_n 1, 1) := by decide +kernel
theorem dX10_lay_1 : decode cX10_lay 1 = .ok (.i2l, 1) := by decide +kernel
theorem dX10_lay_2 : decode cX10_lay 2 = .ok (.lconst 0, 1) := by decide +kernel
theorem dX10_lay_3 : decode cX10_lay 3 = .ok (.aload_n 0, 1) := by decide +kernel
theorem dX10_lay_4 : decode cX10_lay 4 = .ok (.getfield 9, 3) := by decide +kernel
theorem dX10_lay_7 : decode cX10_lay 7 = .ok (.iconst 4, 1) := by decide +kernel
theorem dX10_lay_8 : decode cX10_lay 8 = .ok (.iaload, 1) := by decide +kernel
theorem dX10_lay_9 : decode cX10_lay 9 = .ok (.iconst 1, 1) := by decide +kernel
theorem dX10_lay_10 : decode cX10_lay 10 = .ok (.isub, 1) := by decide +kernel
theorem dX10_lay_11 : decode cX10_lay 11 = .ok (.i2l, 1) := by decide +kernel
theorem dX10_lay_12 : decode cX10_lay 12 = .ok (.invokestatic 100, 3) := by decide +kernel
theorem dX10_lay_15 : decode cX10_lay 15 = .ok (.ifCond .eq 19, 3) := by decide +kernel
theorem dX10_lay_18 : decode cX10_lay 18 = .ok (.aload_n 0, 1) := by decide +kernel
theorem dX10_lay_19 : decode cX10_lay 19 = .ok (.invokevirtual 355, 3) := by decide +kernel
theorem dX10_lay_22 : decode cX10_lay 22 = .ok (.ifCond .eq 12, 3) := by decide +kernel
theorem dX10_lay_25 : decode cX10_lay 25 = .ok (.aload_n 0, 1) := by decide +kernel
theorem dX10_lay_26 : decode cX10_lay 26 = .ok (.getfield 70, 3) := by decide +kernel
theorem dX10_lay_29 : decode cX10_lay 29 = .ok (.iload_n 1, 1) := by decide +kernel
theorem dX10_lay_30 : decode cX10_lay 30 = .ok (.iaload, 1) := by decide +kernel
theorem dX10_lay_31 : decode cX10_lay 31 = .ok (.goto 5, 3) := by decide +kernel
theorem dX10_lay_34 : decode cX10_lay 34 = .ok (.bipush (-2), 2) := by decide +kernel
theorem dX10_lay_36 : decode cX10_lay 36 = .ok (.ireturn, 1) := by decide +kernel
theorem dX10_timely_0 : decode cX10_timely 0 = .ok (.iconst 0, 1) := by decide +kernel
theorem dX10_timely_1 : decode cX10_timely 1 = .ok (.istore_n 1, 1) := by decide +kernel
theorem dX10_timely_2 : decode cX10_timely 2 = .ok (.iconst 0, 1) := by decide +kernel
theorem dX10_timely_3 : decode cX10_timely 3 = .ok (.istore_n 2, 1) := by decide +kernel
theorem dX10_timely_4 : decode cX10_timely 4 = .ok (.iload_n 2, 1) := by decide +kernel
theorem dX10_timely_5 : decode cX10_timely 5 = .ok (.aload_n 0, 1) := by decide +kernel
theorem dX10_timely_6 : decode cX10_timely 6 = .ok (.getfield 9, 3) := by decide +kernel
theorem dX10_timely_9 : decode cX10_timely 9 = .ok (.bipush 7, 2) := by decide +kernel
theorem dX10_timely_11 : decode cX10_timely 11 = .ok (.iaload, 1) := by decide +kernel
theorem dX10_timely_12 : decode cX10_timely 12 = .ok (.if_icmp .ge 31, 3) := by decide +kernel
theorem dX10_timely_15 : decode cX10_timely 15 = .ok (.iload_n 1, 1) := by decide +kernel
theorem dX10_timely_16 : decode cX10_timely 16 = .ok (.aload_n 0, 1) := by decide +kernel
theorem dX10_timely_17 : decode cX10_timely 17 = .ok (.aload_n 0, 1) := by decide +kernel
theorem dX10_timely_18 : decode cX10_timely 18 = .ok (.iload_n 2, 1) := by decide +kernel
theorem dX10_timely_19 : decode cX10_timely 19 = .ok (.iconst 2, 1) := by decide +kernel
theorem dX10_timely_20 : decode cX10_timely 20 = .ok (.invokevirtual 243, 3) := by decide +kernel
theorem dX10_timely_23 : decode cX10_timely 23 = .ok (.i2l, 1) := by decide +kernel
theorem dX10_timely_24 : decode cX10_timely 24 = .ok (.invokevirtual 288, 3) := by decide +kernel
theorem dX10_timely_27 : decode cX10_timely 27 = .ok (.ifCond .eq 7, 3) := by decide +kernel
theorem dX10_timely_30 : decode cX10_timely 30 = .ok (.iconst 1, 1) := by decide +kernel
theorem dX10_timely_31 : decode cX10_timely 31 = .ok (.goto 4, 3) := by decide +kernel
theorem dX10_timely_34 : decode cX10_timely 34 = .ok (.iconst 0, 1) := by decide +kernel
theorem dX10_timely_35 : decode cX10_timely 35 = .ok (.iadd, 1) := by decide +kernel
theorem dX10_timely_36 : decode cX10_timely 36 = .ok (.istore_n 1, 1) := by decide +kernel
theorem dX10_timely_37 : decode cX10_timely 37 = .ok (.iinc 2 1, 3) := by decide +kernel
theorem dX10_timely_40 : decode cX10_timely 40 = .ok (.goto (-36), 3) := by decide +kernel
theorem dX10_timely_43 : decode cX10_timely 43 = .ok (.iload_n 1, 1) := by decide +kernel
theorem dX10_timely_44 : decode cX10_timely 44 = .ok (.ireturn, 1) := by decide +kernel
theorem dX10_fillSet_0 : decode cX10_fillSet 0 = .ok (.iconst (-1), 1) := by decide +kernel
theorem dX10_fillSet_1 : decode cX10_fillSet 1 = .ok (.istore_n 1, 1) := by decide +kernel
theorem dX10_fillSet_2 : decode cX10_fillSet 2 = .ok (.iconst 0, 1) := by decide +kernel
theorem dX10_fillSet_3 : decode cX10_fillSet 3 = .ok (.istore_n 2, 1) := by decide +kernel
theorem dX10_fillSet_4 : decode cX10_fillSet 4 = .ok (.iload_n 2, 1) := by decide +kernel
theorem dX10_fillSet_5 : decode cX10_fillSet 5 = .ok (.iconst 1, 1) := by decide +kernel
theorem dX10_fillSet_6 : decode cX10_fillSet 6 = .ok (.aload_n 0, 1) := by decide +kernel
theorem dX10_fillSet_7 : decode cX10_fillSet 7 = .ok (.invokevirtual 261, 3) := by decide +kernel
theorem dX10_fillSet_10 : decode cX10_fillSet 10 = .ok (.ishl, 1) := by decide +kernel
theorem dX10_fillSet_11 : decode cX10_fillSet 11 = .ok (.if_icmp .ge 43, 3) := by decide +kernel
theorem dX10_fillSet_14 : decode cX10_fillSet 14 = .ok (.aload_n 0, 1) := by decide +kernel
theorem dX10_fillSet_15 : decode cX10_fillSet 15 = .ok (.iload_n 2, 1) := by decide +kernel
theorem dX10_fillSet_16 : decode cX10_fillSet 16 = .ok (.putfield 249, 3) := by decide +kernel
theorem dX10_fillSet_19 : decode cX10_fillSet 19 = .ok (.aload_n 0, 1) := by decide +kernel
theorem dX10_fillSet_20 : decode cX10_fillSet 20 = .ok (.invokevirtual 343, 3) := by decide +kernel
theorem dX10_fillSet_23 : decode cX10_fillSet 23 = .ok (.aload_n 0, 1) := by decide +kernel
theorem dX10_fillSet_24 : decode cX10_fillSet 24 = .ok (.invokevirtual 358, 3) := by decide +kernel
theorem dX10_fillSet_27 : decode cX10_fillSet 27 = .ok (.if_icmp .ne 21, 3) := by decide +kernel
theorem dX10_fillSet_30 : decode cX10_fillSet 30 = .ok (.iload_n 1, 1) := by decide +kernel
theorem dX10_fillSet_31 : decode cX10_fillSet 31 = .ok (.iconst (-1), 1) := by decide +kernel
theorem dX10_fillSet_32 : decode cX10_fillSet 32 = .ok (.if_icmp .eq 14, 3) := by decide +kernel
theorem dX10_fillSet_35 : decode cX10_fillSet 35 = .ok (.iload_n 2, 1) := by decide +kernel
theorem dX10_fillSet_36 : decode cX10_fillSet 36 = .ok (.invokestatic 337, 3) := by decide +kernel
theorem dX10_fillSet_39 : decode cX10_fillSet 39 = .ok (.iload_n 1, 1) := by decide +kernel
theorem dX10_fillSet_40 : decode cX10_fillSet 40 = .ok (.invokestatic 337, 3) := by decide +kernel
theorem dX10_fillSet_43 : decode cX10_fillSet 43 = .ok (.if_icmp .ge 5, 3) := by decide +kernel
theorem dX10_fillSet_46 : decode cX10_fillSet 46 = .ok (.iload_n 2, 1) := by decide +kernel
theorem dX10_fillSet_47 : decode cX10_fillSet 47 = .ok (.istore_n 1, 1) := by decide +kernel
theorem dX10_fillSet_48 : decode cX10_fillSet 48 = .ok (.iinc 2 1, 3) := by decide +kernel
theorem dX10_fillSet_51 : decode cX10_fillSet 51 = .ok (.goto (-47), 3) := by decide +kernel
theorem dX10_fillSet_54 : decode cX10_fillSet 54 = .ok (.iload_n 1, 1) := by decide +kernel
theorem dX10_fillSet_55 : decode cX10_fillSet 55 = .ok (.ireturn, 1) := by decide +kernel
theorem dX10_fills_0 : decode cX10_fills 0 = .ok (.aload_n 0, 1) := by decide +kernel
theorem dX10_fills_1 : decode cX10_fills 1 = .ok (.invokevirtual 285, 3) := by decide +kernel
theorem dX10_fills_4 : decode cX10_fills 4 = .ok (.ifCond .eq 13, 3) := by decide +kernel
theorem dX10_fills_7 : decode cX10_fills 7 = .ok (.aload_n 0, 1) := by decide +kernel
theorem dX10_fills_8 : decode cX10_fills 8 = .ok (.invokevirtual 361, 3) := by decide +kernel
theorem dX10_fills_11 : decode cX10_fills 11 = .ok (.invokestatic 337, 3) := by decide +kernel
theorem dX10_fills_14 : decode cX10_fills 14 = .ok (.goto 5, 3) := by decide +kernel
theorem dX10_fills_17 : decode cX10_fills 17 = .ok (.bipush (-2), 2) := by decide +kernel
theorem dX10_fills_19 : decode cX10_fills 19 = .ok (.ireturn, 1) := by decide +kernel
theorem dX10_filled_0 : decode cX10_filled 0 = .ok (.aload_n 0, 1) := by decide +kernel
theorem dX10_filled_1 : decode cX10_filled 1 = .ok (.invokevirtual 285, 3) := by decide +kernel
theorem dX10_filled_4 : decode cX10_filled 4 = .ok (.ifCond .eq 10, 3) := by decide +kernel
theorem dX10_filled_7 : decode cX10_filled 7 = .ok (.aload_n 0, 1) := by decide +kernel
theorem dX10_filled_8 : decode cX10_filled 8 = .ok (.invokevirtual 361, 3) := by decide +kernel
theorem dX10_filled_11 : decode cX10_filled 11 = .ok (.goto 5, 3) := by decide +kernel
theorem dX10_filled_14 : decode cX10_filled 14 = .ok (.bipush (-2), 2) := by decide +kernel
theorem dX10_filled_16 : decode cX10_filled 16 = .ok (.ireturn, 1) := by decide +kernel
theorem dX10_path_0 : decode cX10_path 0 = .ok (.aload_n 0, 1) := by decide +kernel
theorem dX10_path_1 : decode cX10_path 1 = .ok (.invokevirtual 285, 3) := by decide +kernel
theorem dX10_path_4 : decode cX10_path 4 = .ok (.ifCond .ne 6, 3) := by decide +kernel
theorem dX10_path_7 : decode cX10_path 7 = .ok (.bipush (-2), 2) := by decide +kernel
theorem dX10_path_9 : decode cX10_path 9 = .ok (.ireturn, 1) := by decide +kernel
theorem dX10_path_10 : decode cX10_path 10 = .ok (.aload_n 0, 1) := by decide +kernel
theorem dX10_path_11 : decode cX10_path 11 = .ok (.invokevirtual 343, 3) := by decide +kernel
theorem dX10_path_14 : decode cX10_path 14 = .ok (.istore_n 1, 1) := by decide +kernel
theorem dX10_path_15 : decode cX10_path 15 = .ok (.iconst (-1), 1) := by decide +kernel
theorem dX10_path_16 : decode cX10_path 16 = .ok (.istore_n 2, 1) := by decide +kernel
theorem dX10_path_17 : decode cX10_path 17 = .ok (.iconst 0, 1) := by decide +kernel
theorem dX10_path_18 : decode cX10_path 18 = .ok (.istore_n 3, 1) := by decide +kernel
theorem dX10_path_19 : decode cX10_path 19 = .ok (.iload_n 3, 1) := by decide +kernel
theorem dX10_path_20 : decode cX10_path 20 = .ok (.aload_n 0, 1) := by decide +kernel
theorem dX10_path_21 : decode cX10_path 21 = .ok (.invokevirtual 261, 3) := by decide +kernel
theorem dX10_path_24 : decode cX10_path 24 = .ok (.if_icmp .ge 34, 3) := by decide +kernel
theorem dX10_path_27 : decode cX10_path 27 = .ok (.aload_n 0, 1) := by decide +kernel
theorem dX10_path_28 : decode cX10_path 28 = .ok (.iconst 1, 1) := by decide +kernel
theorem dX10_path_29 : decode cX10_path 29 = .ok (.iload_n 3, 1) := by decide +kernel
theorem dX10_path_30 : decode cX10_path 30 = .ok (.ishl, 1) := by decide +kernel
theorem dX10_path_31 : decode cX10_path 31 = .ok (.putfield 249, 3) := by decide +kernel
theorem dX10_path_34 : decode cX10_path 34 = .ok (.aload_n 0, 1) := by decide +kernel
theorem dX10_path_35 : decode cX10_path 35 = .ok (.invokevirtual 343, 3) := by decide +kernel
theorem dX10_path_38 : decode cX10_path 38 = .ok (.iload_n 1, 1) := by decide +kernel
theorem dX10_path_39 : decode cX10_path 39 = .ok (.if_icmp .gt 6, 3) := by decide +kernel
theorem dX10_path_42 : decode cX10_path 42 = .ok (.goto 10, 3) := by decide +kernel
theorem dX10_path_45 : decode cX10_path 45 = .ok (.aload_n 0, 1) := by decide +kernel
theorem dX10_path_46 : decode cX10_path 46 = .ok (.invokevirtual 343, 3) := by decide +kernel
theorem dX10_path_49 : decode cX10_path 49 = .ok (.istore_n 1, 1) := by decide +kernel
theorem dX10_path_50 : decode cX10_path 50 = .ok (.iload_n 3, 1) := by decide +kernel
theorem dX10_path_51 : decode cX10_path 51 = .ok (.istore_n 2, 1) := by decide +kernel
theorem dX10_path_52 : decode cX10_path 52 = .ok (.iinc 3 1, 3) := by decide +kernel
theorem dX10_path_55 : decode cX10_path 55 = .ok (.goto (-36), 3) := by decide +kernel
theorem dX10_path_58 : decode cX10_path 58 = .ok (.iload_n 2, 1) := by decide +kernel
theorem dX10_path_59 : decode cX10_path 59 = .ok (.ireturn, 1) := by decide +kernel
theorem dX10_drain_0 : decode cX10_drain 0 = .ok (.aload_n 0, 1) := by decide +kernel
theorem dX10_drain_1 : decode cX10_drain 1 = .ok (.iload_n 1, 1) := by decide +kernel
theorem dX10_drain_2 : decode cX10_drain 2 = .ok (.invokevirtual 297, 3) := by decide +kernel
theorem dX10_drain_5 : decode cX10_drain 5 = .ok (.ifCond .ne 6, 3) := by decide +kernel
theorem dX10_drain_8 : decode cX10_drain 8 = .ok (.bipush (-2), 2) := by decide +kernel
theorem dX10_drain_10 : decode cX10_drain 10 = .ok (.ireturn, 1) := by decide +kernel
theorem dX10_drain_11 : decode cX10_drain 11 = .ok (.iconst 0, 1) := by decide +kernel
theorem dX10_drain_12 : decode cX10_drain 12 = .ok (.istore_n 2, 1) := by decide +kernel
theorem dX10_drain_13 : decode cX10_drain 13 = .ok (.iconst (-1), 1) := by decide +kernel
theorem dX10_drain_14 : decode cX10_drain 14 = .ok (.istore_n 3, 1) := by decide +kernel
theorem dX10_drain_15 : decode cX10_drain 15 = .ok (.iconst 0, 1) := by decide +kernel
theorem dX10_drain_16 : decode cX10_drain 16 = .ok (.istore 4, 2) := by decide +kernel
theorem dX10_drain_18 : decode cX10_drain 18 = .ok (.iload 4, 2) := by decide +kernel
theorem dX10_drain_20 : decode cX10_drain 20 = .ok (.bipush 20, 2) := by decide +kernel
theorem dX10_drain_22 : decode cX10_drain 22 = .ok (.if_icmp .gt 40, 3) := by decide +kernel
theorem dX10_drain_25 : decode cX10_drain 25 = .ok (.aload_n 0, 1) := by decide +kernel
theorem dX10_drain_26 : decode cX10_drain 26 = .ok (.getfield 37, 3) := by decide +kernel
theorem dX10_drain_29 : decode cX10_drain 29 = .ok (.iload_n 1, 1) := by decide +kernel
theorem dX10_drain_30 : decode cX10_drain 30 = .ok (.iload 4, 2) := by decide +kernel
theorem dX10_drain_32 : decode cX10_drain 32 = .ok (.iastore, 1) := by decide +kernel
theorem dX10_drain_33 : decode cX10_drain 33 = .ok (.aload_n 0, 1) := by decide +kernel
theorem dX10_drain_34 : decode cX10_drain 34 = .ok (.invokevirtual 279, 3) := by decide +kernel
theorem dX10_drain_37 : decode cX10_drain 37 = .ok (.aload_n 0, 1) := by decide +kernel
theorem dX10_drain_38 : decode cX10_drain 38 = .ok (.invokevirtual 343, 3) := by decide +kernel
theorem dX10_drain_41 : decode cX10_drain 41 = .ok (.iload_n 3, 1) := by decide +kernel
theorem dX10_drain_42 : decode cX10_drain 42 = .ok (.if_icmp .gt 6, 3) := by decide +kernel
theorem dX10_drain_45 : decode cX10_drain 45 = .ok (.goto 11, 3) := by decide +kernel
theorem dX10_drain_48 : decode cX10_drain 48 = .ok (.aload_n 0, 1) := by decide +kernel
theorem dX10_drain_49 : decode cX10_drain 49 = .ok (.invokevirtual 343, 3) := by decide +kernel
theorem dX10_drain_52 : decode cX10_drain 52 = .ok (.istore_n 3, 1) := by decide +kernel
theorem dX10_drain_53 : decode cX10_drain 53 = .ok (.iload 4, 2) := by decide +kernel
theorem dX10_drain_55 : decode cX10_drain 55 = .ok (.istore_n 2, 1) := by decide +kernel
theorem dX10_drain_56 : decode cX10_drain 56 = .ok (.iinc 4 1, 3) := by decide +kernel
theorem dX10_drain_59 : decode cX10_drain 59 = .ok (.goto (-41), 3) := by decide +kernel
theorem dX10_drain_62 : decode cX10_drain 62 = .ok (.iload_n 2, 1) := by decide +kernel
theorem dX10_drain_63 : decode cX10_drain 63 = .ok (.ireturn, 1) := by decide +kernel
theorem dX10_learns_0 : decode cX10_learns 0 = .ok (.aload_n 0, 1) := by decide +kernel
theorem dX10_learns_1 : decode cX10_learns 1 = .ok (.iload_n 1, 1) := by decide +kernel
theorem dX10_learns_2 : decode cX10_learns 2 = .ok (.invokevirtual 297, 3) := by decide +kernel
theorem dX10_learns_5 : decode cX10_learns 5 = .ok (.ifCond .ne 6, 3) := by decide +kernel
theorem dX10_learns_8 : decode cX10_learns 8 = .ok (.bipush (-2), 2) := by decide +kernel
theorem dX10_learns_10 : decode cX10_learns 10 = .ok (.ireturn, 1) := by decide +kernel
theorem dX10_learns_11 : decode cX10_learns 11 = .ok (.iconst 0, 1) := by decide +kernel
theorem dX10_learns_12 : decode cX10_learns 12 = .ok (.istore_n 2, 1) := by decide +kernel
theorem dX10_learns_13 : decode cX10_learns 13 = .ok (.iconst 0, 1) := by decide +kernel
theorem dX10_learns_14 : decode cX10_learns 14 = .ok (.istore_n 3, 1) := by decide +kernel
theorem dX10_learns_15 : decode cX10_learns 15 = .ok (.iload_n 3, 1) := by decide +kernel
theorem dX10_learns_16 : decode cX10_learns 16 = .ok (.aload_n 0, 1) := by decide +kernel
theorem dX10_learns_17 : decode cX10_learns 17 = .ok (.getfield 9, 3) := by decide +kernel
theorem dX10_learns_20 : decode cX10_learns 20 = .ok (.bipush 7, 2) := by decide +kernel
theorem dX10_learns_22 : decode cX10_learns 22 = .ok (.iaload, 1) := by decide +kernel
theorem dX10_learns_23 : decode cX10_learns 23 = .ok (.if_icmp .ge 41, 3) := by decide +kernel
theorem dX10_learns_26 : decode cX10_learns 26 = .ok (.iload_n 2, 1) := by decide +kernel
theorem dX10_learns_27 : decode cX10_learns 27 = .ok (.aload_n 0, 1) := by decide +kernel
theorem dX10_learns_28 : decode cX10_learns 28 = .ok (.iload_n 3, 1) := by decide +kernel
theorem dX10_learns_29 : decode cX10_learns 29 = .ok (.iconst 0, 1) := by decide +kernel
theorem dX10_learns_30 : decode cX10_learns 30 = .ok (.invokevirtual 243, 3) := by decide +kernel
theorem dX10_learns_33 : decode cX10_learns 33 = .ok (.iload_n 1, 1) := by decide +kernel
theorem dX10_learns_34 : decode cX10_learns 34 = .ok (.if_icmp .ne 21, 3) := by decide +kernel
theorem dX10_learns_37 : decode cX10_learns 37 = .ok (.aload_n 0, 1) := by decide +kernel
theorem dX10_learns_38 : decode cX10_learns 38 = .ok (.aload_n 0, 1) := by decide +kernel
theorem dX10_learns_39 : decode cX10_learns 39 = .ok (.iload_n 3, 1) := by decide +kernel
theorem dX10_learns_40 : decode cX10_learns 40 = .ok (.iconst 2, 1) := by decide +kernel
theorem dX10_learns_41 : decode cX10_learns 41 = .ok (.invokevirtual 243, 3) := by decide +kernel
theorem dX10_learns_44 : decode cX10_learns 44 = .ok (.i2l, 1) := by decide +kernel
theorem dX10_learns_45 : decode cX10_learns 45 = .ok (.invokevirtual 288, 3) := by decide +kernel
theorem dX10_learns_48 : decode cX10_learns 48 = .ok (.ifCond .eq 7, 3) := by decide +kernel
theorem dX10_learns_51 : decode cX10_learns 51 = .ok (.iconst 1, 1) := by decide +kernel
theorem dX10_learns_52 : decode cX10_learns 52 = .ok (.goto 4, 3) := by decide +kernel
theorem dX10_learns_55 : decode cX10_learns 55 = .ok (.iconst 0, 1) := by decide +kernel
theorem dX10_learns_56 : decode cX10_learns 56 = .ok (.iadd, 1) := by decide +kernel
theorem dX10_learns_57 : decode cX10_learns 57 = .ok (.istore_n 2, 1) := by decide +kernel
theorem dX10_learns_58 : decode cX10_learns 58 = .ok (.iinc 3 1, 3) := by decide +kernel
theorem dX10_learns_61 : decode cX10_learns 61 = .ok (.goto (-46), 3) := by decide +kernel
theorem dX10_learns_64 : decode cX10_learns 64 = .ok (.aload_n 0, 1) := by decide +kernel
theorem dX10_learns_65 : decode cX10_learns 65 = .ok (.getfield 40, 3) := by decide +kernel
theorem dX10_learns_68 : decode cX10_learns 68 = .ok (.iload_n 1, 1) := by decide +kernel
theorem dX10_learns_69 : decode cX10_learns 69 = .ok (.iconst 0, 1) := by decide +kernel
theorem dX10_learns_70 : decode cX10_learns 70 = .ok (.iastore, 1) := by decide +kernel
theorem dX10_learns_71 : decode cX10_learns 71 = .ok (.aload_n 0, 1) := by decide +kernel
theorem dX10_learns_72 : decode cX10_learns 72 = .ok (.iload_n 1, 1) := by decide +kernel
theorem dX10_learns_73 : decode cX10_learns 73 = .ok (.iconst 0, 1) := by decide +kernel
theorem dX10_learns_74 : decode cX10_learns 74 = .ok (.invokevirtual 340, 3) := by decide +kernel
theorem dX10_learns_77 : decode cX10_learns 77 = .ok (.iload_n 2, 1) := by decide +kernel
theorem dX10_learns_78 : decode cX10_learns 78 = .ok (.if_icmp .ge 16, 3) := by decide +kernel
theorem dX10_learns_81 : decode cX10_learns 81 = .ok (.aload_n 0, 1) := by decide +kernel
theorem dX10_learns_82 : decode cX10_learns 82 = .ok (.getfield 40, 3) := by decide +kernel
theorem dX10_learns_85 : decode cX10_learns 85 = .ok (.iload_n 1, 1) := by decide +kernel
theorem dX10_learns_86 : decode cX10_learns 86 = .ok (.dup2, 1) := by decide +kernel
theorem dX10_learns_87 : decode cX10_learns 87 = .ok (.iaload, 1) := by decide +kernel
theorem dX10_learns_88 : decode cX10_learns 88 = .ok (.iconst 1, 1) := by decide +kernel
theorem dX10_learns_89 : decode cX10_learns 89 = .ok (.iadd, 1) := by decide +kernel
theorem dX10_learns_90 : decode cX10_learns 90 = .ok (.iastore, 1) := by decide +kernel
theorem dX10_learns_91 : decode cX10_learns 91 = .ok (.goto (-20), 3) := by decide +kernel
theorem dX10_learns_94 : decode cX10_learns 94 = .ok (.aload_n 0, 1) := by decide +kernel
theorem dX10_learns_95 : decode cX10_learns 95 = .ok (.getfield 40, 3) := by decide +kernel
theorem dX10_learns_98 : decode cX10_learns 98 = .ok (.iload_n 1, 1) := by decide +kernel
theorem dX10_learns_99 : decode cX10_learns 99 = .ok (.iaload, 1) := by decide +kernel
theorem dX10_learns_100 : decode cX10_learns 100 = .ok (.ireturn, 1) := by decide +kernel
theorem dX10_keptBy_0 : decode cX10_keptBy 0 = .ok (.aload_n 0, 1) := by decide +kernel
theorem dX10_keptBy_1 : decode cX10_keptBy 1 = .ok (.iload_n 1, 1) := by decide +kernel
theorem dX10_keptBy_2 : decode cX10_keptBy 2 = .ok (.putfield 246, 3) := by decide +kernel
theorem dX10_keptBy_5 : decode cX10_keptBy 5 = .ok (.aload_n 0, 1) := by decide +kernel
theorem dX10_keptBy_6 : decode cX10_keptBy 6 = .ok (.invokevirtual 279, 3) := by decide +kernel
theorem dX10_keptBy_9 : decode cX10_keptBy 9 = .ok (.aload_n 0, 1) := by decide +kernel
theorem dX10_keptBy_10 : decode cX10_keptBy 10 = .ok (.invokevirtual 343, 3) := by decide +kernel
theorem dX10_keptBy_13 : decode cX10_keptBy 13 = .ok (.ireturn, 1) := by decide +kernel
theorem dX10_by_0 : decode cX10_by 0 = .ok (.aload_n 0, 1) := by decide +kernel
theorem dX10_by_1 : decode cX10_by 1 = .ok (.invokevirtual 285, 3) := by decide +kernel
theorem dX10_by_4 : decode cX10_by 4 = .ok (.ifCond .eq 23, 3) := by decide +kernel
theorem dX10_by_7 : decode cX10_by 7 = .ok (.iload_n 1, 1) := by decide +kernel
theorem dX10_by_8 : decode cX10_by 8 = .ok (.i2l, 1) := by decide +kernel
theorem dX10_by_9 : decode cX10_by 9 = .ok (.lconst 0, 1) := by decide +kernel
theorem dX10_by_10 : decode cX10_by 10 = .ok (.ldc2_w 234, 3) := by decide +kernel
theorem dX10_by_13 : decode cX10_by 13 = .ok (.invokestatic 100, 3) := by decide +kernel
theorem dX10_by_16 : decode cX10_by 16 = .ok (.ifCond .eq 11, 3) := by decide +kernel
theorem dX10_by_19 : decode cX10_by 19 = .ok (.aload_n 0, 1) := by decide +kernel
theorem dX10_by_20 : decode cX10_by 20 = .ok (.iload_n 1, 1) := by decide +kernel
theorem dX10_by_21 : decode cX10_by 21 = .ok (.invokevirtual 364, 3) := by decide +kernel
theorem dX10_by_24 : decode cX10_by 24 = .ok (.goto 5, 3) := by decide +kernel
theorem dX10_by_27 : decode cX10_by 27 = .ok (.bipush (-2), 2) := by decide +kernel
theorem dX10_by_29 : decode cX10_by 29 = .ok (.ireturn, 1) := by decide +kernel
theorem dX10_law_0 : decode cX10_law 0 = .ok (.aload_n 0, 1) := by decide +kernel
theorem dX10_law_1 : decode cX10_law 1 = .ok (.invokevirtual 285, 3) := by decide +kernel
theorem dX10_law_4 : decode cX10_law 4 = .ok (.ifCond .ne 6, 3) := by decide +kernel
theorem dX10_law_7 : decode cX10_law 7 = .ok (.bipush (-2), 2) := by decide +kernel
theorem dX10_law_9 : decode cX10_law 9 = .ok (.ireturn, 1) := by decide +kernel
theorem dX10_law_10 : decode cX10_law 10 = .ok (.iconst 0, 1) := by decide +kernel
theorem dX10_law_11 : decode cX10_law 11 = .ok (.istore_n 1, 1) := by decide +kernel
theorem dX10_law_12 : decode cX10_law 12 = .ok (.iconst 1, 1) := by decide +kernel
theorem dX10_law_13 : decode cX10_law 13 = .ok (.istore_n 2, 1) := by decide +kernel
theorem dX10_law_14 : decode cX10_law 14 = .ok (.iload_n 2, 1) := by decide +kernel
theorem dX10_law_15 : decode cX10_law 15 = .ok (.iconst 4, 1) := by decide +kernel
theorem dX10_law_16 : decode cX10_law 16 = .ok (.if_icmp .ge 28, 3) := by decide +kernel
theorem dX10_law_19 : decode cX10_law 19 = .ok (.aload_n 0, 1) := by decide +kernel
theorem dX10_law_20 : decode cX10_law 20 = .ok (.iload_n 2, 1) := by decide +kernel
theorem dX10_law_21 : decode cX10_law 21 = .ok (.invokevirtual 364, 3) := by decide +kernel
theorem dX10_law_24 : decode cX10_law 24 = .ok (.aload_n 0, 1) := by decide +kernel
theorem dX10_law_25 : decode cX10_law 25 = .ok (.iload_n 1, 1) := by decide +kernel
theorem dX10_law_26 : decode cX10_law 26 = .ok (.invokevirtual 364, 3) := by decide +kernel
theorem dX10_law_29 : decode cX10_law 29 = .ok (.if_icmp .le 7, 3) := by decide +kernel
theorem dX10_law_32 : decode cX10_law 32 = .ok (.iload_n 2, 1) := by decide +kernel
theorem dX10_law_33 : decode cX10_law 33 = .ok (.goto 4, 3) := by decide +kernel
theorem dX10_law_36 : decode cX10_law 36 = .ok (.iload_n 1, 1) := by decide +kernel
theorem dX10_law_37 : decode cX10_law 37 = .ok (.istore_n 1, 1) := by decide +kernel
theorem dX10_law_38 : decode cX10_law 38 = .ok (.iinc 2 1, 3) := by decide +kernel
theorem dX10_law_41 : decode cX10_law 41 = .ok (.goto (-27), 3) := by decide +kernel
theorem dX10_law_44 : decode cX10_law 44 = .ok (.iload_n 1, 1) := by decide +kernel
theorem dX10_law_45 : decode cX10_law 45 = .ok (.ireturn, 1) := by decide +kernel
theorem dX10_numberAt_0 : decode cX10_numberAt 0 = .ok (.aload_n 0, 1) := by decide +kernel
theorem dX10_numberAt_1 : decode cX10_numberAt 1 = .ok (.getfield 88, 3) := by decide +kernel
theorem dX10_numberAt_4 : decode cX10_numberAt 4 = .ok (.bipush 60, 2) := by decide +kernel
theorem dX10_numberAt_6 : decode cX10_numberAt 6 = .ok (.iload_n 1, 1) := by decide +kernel
theorem dX10_numberAt_7 : decode cX10_numberAt 7 = .ok (.imul, 1) := by decide +kernel
theorem dX10_numberAt_8 : decode cX10_numberAt 8 = .ok (.iload_n 2, 1) := by decide +kernel
theorem dX10_numberAt_9 : decode cX10_numberAt 9 = .ok (.iadd, 1) := by decide +kernel
theorem dX10_numberAt_10 : decode cX10_numberAt 10 = .ok (.laload, 1) := by decide +kernel
theorem dX10_numberAt_11 : decode cX10_numberAt 11 = .ok (.lreturn, 1) := by decide +kernel
theorem dX10_askSeen_0 : decode cX10_askSeen 0 = .ok (.iload_n 1, 1) := by decide +kernel
theorem dX10_askSeen_1 : decode cX10_askSeen 1 = .ok (.invokestatic 367, 3) := by decide +kernel
theorem dX10_askSeen_4 : decode cX10_askSeen 4 = .ok (.ifCond .eq 10, 3) := by decide +kernel
theorem dX10_askSeen_7 : decode cX10_askSeen 7 = .ok (.aload_n 0, 1) := by decide +kernel
theorem dX10_askSeen_8 : decode cX10_askSeen 8 = .ok (.invokevirtual 282, 3) := by decide +kernel
theorem dX10_askSeen_11 : decode cX10_askSeen 11 = .ok (.ifCond .ne 6, 3) := by decide +kernel
theorem dX10_askSeen_14 : decode cX10_askSeen 14 = .ok (.bipush (-2), 2) := by decide +kernel
theorem dX10_askSeen_16 : decode cX10_askSeen 16 = .ok (.ireturn, 1) := by decide +kernel
theorem dX10_askSeen_17 : decode cX10_askSeen 17 = .ok (.aload_n 0, 1) := by decide +kernel
theorem dX10_askSeen_18 : decode cX10_askSeen 18 = .ok (.getfield 82, 3) := by decide +kernel
theorem dX10_askSeen_21 : decode cX10_askSeen 21 = .ok (.iload_n 1, 1) := by decide +kernel
theorem dX10_askSeen_22 : decode cX10_askSeen 22 = .ok (.iaload, 1) := by decide +kernel
theorem dX10_askSeen_23 : decode cX10_askSeen 23 = .ok (.iconst (-1), 1) := by decide +kernel
theorem dX10_askSeen_24 : decode cX10_askSeen 24 = .ok (.if_icmp .ne 6, 3) := by decide +kernel
theorem dX10_askSeen_27 : decode cX10_askSeen 27 = .ok (.bipush (-6), 2) := by decide +kernel
theorem dX10_askSeen_29 : decode cX10_askSeen 29 = .ok (.ireturn, 1) := by decide +kernel
theorem dX10_askSeen_30 : decode cX10_askSeen 30 = .ok (.aload_n 0, 1) := by decide +kernel
theorem dX10_askSeen_31 : decode cX10_askSeen 31 = .ok (.getfield 82, 3) := by decide +kernel
theorem dX10_askSeen_34 : decode cX10_askSeen 34 = .ok (.iload_n 1, 1) := by decide +kernel
theorem dX10_askSeen_35 : decode cX10_askSeen 35 = .ok (.iaload, 1) := by decide +kernel
theorem dX10_askSeen_36 : decode cX10_askSeen 36 = .ok (.iconst 3, 1) := by decide +kernel
theorem dX10_askSeen_37 : decode cX10_askSeen 37 = .ok (.irem, 1) := by decide +kernel
theorem dX10_askSeen_38 : decode cX10_askSeen 38 = .ok (.ifCond .eq 6, 3) := by decide +kernel
theorem dX10_askSeen_41 : decode cX10_askSeen 41 = .ok (.bipush (-2), 2) := by decide +kernel
theorem dX10_askSeen_43 : decode cX10_askSeen 43 = .ok (.ireturn, 1) := by decide +kernel
theorem dX10_askSeen_44 : decode cX10_askSeen 44 = .ok (.iconst 0, 1) := by decide +kernel
theorem dX10_askSeen_45 : decode cX10_askSeen 45 = .ok (.istore_n 2, 1) := by decide +kernel
theorem dX10_askSeen_46 : decode cX10_askSeen 46 = .ok (.iload_n 2, 1) := by decide +kernel
theorem dX10_askSeen_47 : decode cX10_askSeen 47 = .ok (.aload_n 0, 1) := by decide +kernel
theorem dX10_askSeen_48 : decode cX10_askSeen 48 = .ok (.getfield 82, 3) := by decide +kernel
theorem dX10_askSeen_51 : decode cX10_askSeen 51 = .ok (.iload_n 1, 1) := by decide +kernel
theorem dX10_askSeen_52 : decode cX10_askSeen 52 = .ok (.iaload, 1) := by decide +kernel
theorem dX10_askSeen_53 : decode cX10_askSeen 53 = .ok (.if_icmp .ge 58, 3) := by decide +kernel
theorem dX10_askSeen_56 : decode cX10_askSeen 56 = .ok (.aload_n 0, 1) := by decide +kernel
theorem dX10_askSeen_57 : decode cX10_askSeen 57 = .ok (.aload_n 0, 1) := by decide +kernel
theorem dX10_askSeen_58 : decode cX10_askSeen 58 = .ok (.iload_n 1, 1) := by decide +kernel
theorem dX10_askSeen_59 : decode cX10_askSeen 59 = .ok (.iload_n 2, 1) := by decide +kernel
theorem dX10_askSeen_60 : decode cX10_askSeen 60 = .ok (.invokevirtual 370, 3) := by decide +kernel
theorem dX10_askSeen_63 : decode cX10_askSeen 63 = .ok (.invokevirtual 230, 3) := by decide +kernel
theorem dX10_askSeen_66 : decode cX10_askSeen 66 = .ok (.ifCond .eq 36, 3) := by decide +kernel
theorem dX10_askSeen_69 : decode cX10_askSeen 69 = .ok (.aload_n 0, 1) := by decide +kernel
theorem dX10_askSeen_70 : decode cX10_askSeen 70 = .ok (.aload_n 0, 1) := by decide +kernel
theorem dX10_askSeen_71 : decode cX10_askSeen 71 = .ok (.iload_n 1, 1) := by decide +kernel
theorem dX10_askSeen_72 : decode cX10_askSeen 72 = .ok (.iload_n 2, 1) := by decide +kernel
theorem dX10_askSeen_73 : decode cX10_askSeen 73 = .ok (.iconst 1, 1) := by decide +kernel
theorem dX10_askSeen_74 : decode cX10_askSeen 74 = .ok (.iadd, 1) := by decide +kernel
theorem dX10_askSeen_75 : decode cX10_askSeen 75 = .ok (.invokevirtual 370, 3) := by decide +kernel
theorem dX10_askSeen_78 : decode cX10_askSeen 78 = .ok (.invokevirtual 288, 3) := by decide +kernel
theorem dX10_askSeen_81 : decode cX10_askSeen 81 = .ok (.ifCond .eq 21, 3) := by decide +kernel
theorem dX10_askSeen_84 : decode cX10_askSeen 84 = .ok (.aload_n 0, 1) := by decide +kernel
theorem dX10_askSeen_85 : decode cX10_askSeen 85 = .ok (.iload_n 1, 1) := by decide +kernel
theorem dX10_askSeen_86 : decode cX10_askSeen 86 = .ok (.iload_n 2, 1) := by decide +kernel
theorem dX10_askSeen_87 : decode cX10_askSeen 87 = .ok (.iconst 2, 1) := by decide +kernel
theorem dX10_askSeen_88 : decode cX10_askSeen 88 = .ok (.iadd, 1) := by decide +kernel
theorem dX10_askSeen_89 : decode cX10_askSeen 89 = .ok (.invokevirtual 370, 3) := by decide +kernel
theorem dX10_askSeen_92 : decode cX10_askSeen 92 = .ok (.lconst 0, 1) := by decide +kernel
theorem dX10_askSeen_93 : decode cX10_askSeen 93 = .ok (.ldc2_w 374, 3) := by decide +kernel
theorem dX10_askSeen_96 : decode cX10_askSeen 96 = .ok (.invokestatic 100, 3) := by decide +kernel
theorem dX10_askSeen_99 : decode cX10_askSeen 99 = .ok (.ifCond .ne 6, 3) := by decide +kernel
theorem dX10_askSeen_102 : decode cX10_askSeen 102 = .ok (.bipush (-2), 2) := by decide +kernel
theorem dX10_askSeen_104 : decode cX10_askSeen 104 = .ok (.ireturn, 1) := by decide +kernel
theorem dX10_askSeen_105 : decode cX10_askSeen 105 = .ok (.iinc 2 3, 3) := by decide +kernel
theorem dX10_askSeen_108 : decode cX10_askSeen 108 = .ok (.goto (-62), 3) := by decide +kernel
theorem dX10_askSeen_111 : decode cX10_askSeen 111 = .ok (.aload_n 0, 1) := by decide +kernel
theorem dX10_askSeen_112 : decode cX10_askSeen 112 = .ok (.invokevirtual 276, 3) := by decide +kernel
theorem dX10_askSeen_115 : decode cX10_askSeen 115 = .ok (.iconst 0, 1) := by decide +kernel
theorem dX10_askSeen_116 : decode cX10_askSeen 116 = .ok (.ireturn, 1) := by decide +kernel
theorem dX10_isSeen_0 : decode cX10_isSeen 0 = .ok (.aload_n 0, 1) := by decide +kernel
theorem dX10_isSeen_1 : decode cX10_isSeen 1 = .ok (.invokevirtual 279, 3) := by decide +kernel
theorem dX10_isSeen_4 : decode cX10_isSeen 4 = .ok (.iconst 0, 1) := by decide +kernel
theorem dX10_isSeen_5 : decode cX10_isSeen 5 = .ok (.istore_n 2, 1) := by decide +kernel
theorem dX10_isSeen_6 : decode cX10_isSeen 6 = .ok (.iload_n 2, 1) := by decide +kernel
theorem dX10_isSeen_7 : decode cX10_isSeen 7 = .ok (.aload_n 0, 1) := by decide +kernel
theorem dX10_isSeen_8 : decode cX10_isSeen 8 = .ok (.getfield 82, 3) := by decide +kernel
theorem dX10_isSeen_11 : decode cX10_isSeen 11 = .ok (.iload_n 1, 1) := by decide +kernel
theorem dX10_isSeen_12 : decode cX10_isSeen 12 = .ok (.iaload, 1) := by decide +kernel
theorem dX10_isSeen_13 : decode cX10_isSeen 13 = .ok (.if_icmp .ge 44, 3) := by decide +kernel
theorem dX10_isSeen_16 : decode cX10_isSeen 16 = .ok (.aload_n 0, 1) := by decide +kernel
theorem dX10_isSeen_17 : decode cX10_isSeen 17 = .ok (.aload_n 0, 1) := by decide +kernel
theorem dX10_isSeen_18 : decode cX10_isSeen 18 = .ok (.iload_n 1, 1) := by decide +kernel
theorem dX10_isSeen_19 : decode cX10_isSeen 19 = .ok (.iload_n 2, 1) := by decide +kernel
theorem dX10_isSeen_20 : decode cX10_isSeen 20 = .ok (.invokevirtual 370, 3) := by decide +kernel
theorem dX10_isSeen_23 : decode cX10_isSeen 23 = .ok (.l2i, 1) := by decide +kernel
theorem dX10_isSeen_24 : decode cX10_isSeen 24 = .ok (.aload_n 0, 1) := by decide +kernel
theorem dX10_isSeen_25 : decode cX10_isSeen 25 = .ok (.iload_n 1, 1) := by decide +kernel
theorem dX10_isSeen_26 : decode cX10_isSeen 26 = .ok (.iload_n 2, 1) := by decide +kernel
theorem dX10_isSeen_27 : decode cX10_isSeen 27 = .ok (.iconst 1, 1) := by decide +kernel
theorem dX10_isSeen_28 : decode cX10_isSeen 28 = .ok (.iadd, 1) := by decide +kernel
theorem dX10_isSeen_29 : decode cX10_isSeen 29 = .ok (.invokevirtual 370, 3) := by decide +kernel
theorem dX10_isSeen_32 : decode cX10_isSeen 32 = .ok (.l2i, 1) := by decide +kernel
theorem dX10_isSeen_33 : decode cX10_isSeen 33 = .ok (.invokevirtual 294, 3) := by decide +kernel
theorem dX10_isSeen_36 : decode cX10_isSeen 36 = .ok (.i2l, 1) := by decide +kernel
theorem dX10_isSeen_37 : decode cX10_isSeen 37 = .ok (.aload_n 0, 1) := by decide +kernel
theorem dX10_isSeen_38 : decode cX10_isSeen 38 = .ok (.iload_n 1, 1) := by decide +kernel
theorem dX10_isSeen_39 : decode cX10_isSeen 39 = .ok (.iload_n 2, 1) := by decide +kernel
theorem dX10_isSeen_40 : decode cX10_isSeen 40 = .ok (.iconst 2, 1) := by decide +kernel
theorem dX10_isSeen_41 : decode cX10_isSeen 41 = .ok (.iadd, 1) := by decide +kernel
theorem dX10_isSeen_42 : decode cX10_isSeen 42 = .ok (.invokevirtual 370, 3) := by decide +kernel
theorem dX10_isSeen_45 : decode cX10_isSeen 45 = .ok (.lcmp, 1) := by decide +kernel
theorem dX10_isSeen_46 : decode cX10_isSeen 46 = .ok (.ifCond .eq 5, 3) := by decide +kernel
theorem dX10_isSeen_49 : decode cX10_isSeen 49 = .ok (.iconst 0, 1) := by decide +kernel
theorem dX10_isSeen_50 : decode cX10_isSeen 50 = .ok (.ireturn, 1) := by decide +kernel
theorem dX10_isSeen_51 : decode cX10_isSeen 51 = .ok (.iinc 2 3, 3) := by decide +kernel
theorem dX10_isSeen_54 : decode cX10_isSeen 54 = .ok (.goto (-48), 3) := by decide +kernel
theorem dX10_isSeen_57 : decode cX10_isSeen 57 = .ok (.iconst 1, 1) := by decide +kernel
theorem dX10_isSeen_58 : decode cX10_isSeen 58 = .ok (.ireturn, 1) := by decide +kernel
theorem dX10_layWaters_0 : decode cX10_layWaters 0 = .ok (.aload_n 0, 1) := by decide +kernel
theorem dX10_layWaters_1 : decode cX10_layWaters 1 = .ok (.iload_n 2, 1) := by decide +kernel
theorem dX10_layWaters_2 : decode cX10_layWaters 2 = .ok (.i2l, 1) := by decide +kernel
theorem dX10_layWaters_3 : decode cX10_layWaters 3 = .ok (.invokevirtual 230, 3) := by decide +kernel
theorem dX10_layWaters_6 : decode cX10_layWaters 6 = .ok (.ifCond .ne 6, 3) := by decide +kernel
theorem dX10_layWaters_9 : decode cX10_layWaters 9 = .ok (.bipush (-2), 2) := by decide +kernel
theorem dX10_layWaters_11 : decode cX10_layWaters 11 = .ok (.ireturn, 1) := by decide +kernel
theorem dX10_layWaters_12 : decode cX10_layWaters 12 = .ok (.aload_n 0, 1) := by decide +kernel
theorem dX10_layWaters_13 : decode cX10_layWaters 13 = .ok (.iload_n 1, 1) := by decide +kernel
theorem dX10_layWaters_14 : decode cX10_layWaters 14 = .ok (.invokevirtual 376, 3) := by decide +kernel
theorem dX10_layWaters_17 : decode cX10_layWaters 17 = .ok (.istore_n 3, 1) := by decide +kernel
theorem dX10_layWaters_18 : decode cX10_layWaters 18 = .ok (.iload_n 3, 1) := by decide +kernel
theorem dX10_layWaters_19 : decode cX10_layWaters 19 = .ok (.ifCond .ge 5, 3) := by decide +kernel
theorem dX10_layWaters_22 : decode cX10_layWaters 22 = .ok (.iload_n 3, 1) := by decide +kernel
theorem dX10_layWaters_23 : decode cX10_layWaters 23 = .ok (.ireturn, 1) := by decide +kernel
theorem dX10_layWaters_24 : decode cX10_layWaters 24 = .ok (.aload_n 0, 1) := by decide +kernel
theorem dX10_layWaters_25 : decode cX10_layWaters 25 = .ok (.iconst 0, 1) := by decide +kernel
theorem dX10_layWaters_26 : decode cX10_layWaters 26 = .ok (.putfield 379, 3) := by decide +kernel
theorem dX10_layWaters_29 : decode cX10_layWaters 29 = .ok (.iconst 0, 1) := by decide +kernel
theorem dX10_layWaters_30 : decode cX10_layWaters 30 = .ok (.istore 4, 2) := by decide +kernel
theorem dX10_layWaters_32 : decode cX10_layWaters 32 = .ok (.iload 4, 2) := by decide +kernel
theorem dX10_layWaters_34 : decode cX10_layWaters 34 = .ok (.bipush 99, 2) := by decide +kernel
theorem dX10_layWaters_36 : decode cX10_layWaters 36 = .ok (.if_icmp .gt 89, 3) := by decide +kernel
theorem dX10_layWaters_39 : decode cX10_layWaters 39 = .ok (.aload_n 0, 1) := by decide +kernel
theorem dX10_layWaters_40 : decode cX10_layWaters 40 = .ok (.getfield 34, 3) := by decide +kernel
theorem dX10_layWaters_43 : decode cX10_layWaters 43 = .ok (.iload_n 2, 1) := by decide +kernel
theorem dX10_layWaters_44 : decode cX10_layWaters 44 = .ok (.iload 4, 2) := by decide +kernel
theorem dX10_layWaters_46 : decode cX10_layWaters 46 = .ok (.iastore, 1) := by decide +kernel
theorem dX10_layWaters_47 : decode cX10_layWaters 47 = .ok (.aload_n 0, 1) := by decide +kernel
theorem dX10_layWaters_48 : decode cX10_layWaters 48 = .ok (.iload_n 1, 1) := by decide +kernel
theorem dX10_layWaters_49 : decode cX10_layWaters 49 = .ok (.invokevirtual 382, 3) := by decide +kernel
theorem dX10_layWaters_52 : decode cX10_layWaters 52 = .ok (.ifCond .ne 6, 3) := by decide +kernel
theorem dX10_layWaters_55 : decode cX10_layWaters 55 = .ok (.goto 64, 3) := by decide +kernel
theorem dX10_layWaters_58 : decode cX10_layWaters 58 = .ok (.aload_n 0, 1) := by decide +kernel
theorem dX10_layWaters_59 : decode cX10_layWaters 59 = .ok (.getfield 73, 3) := by decide +kernel
theorem dX10_layWaters_62 : decode cX10_layWaters 62 = .ok (.aload_n 0, 1) := by decide +kernel
theorem dX10_layWaters_63 : decode cX10_layWaters 63 = .ok (.getfield 379, 3) := by decide +kernel
theorem dX10_layWaters_66 : decode cX10_layWaters 66 = .ok (.iload 4, 2) := by decide +kernel
theorem dX10_layWaters_68 : decode cX10_layWaters 68 = .ok (.iastore, 1) := by decide +kernel
theorem dX10_layWaters_69 : decode cX10_layWaters 69 = .ok (.iconst 0, 1) := by decide +kernel
theorem dX10_layWaters_70 : decode cX10_layWaters 70 = .ok (.istore 5, 2) := by decide +kernel
theorem dX10_layWaters_72 : decode cX10_layWaters 72 = .ok (.iload 5, 2) := by decide +kernel
theorem dX10_layWaters_74 : decode cX10_layWaters 74 = .ok (.aload_n 0, 1) := by decide +kernel
theorem dX10_layWaters_75 : decode cX10_layWaters 75 = .ok (.invokevirtual 271, 3) := by decide +kernel
theorem dX10_layWaters_78 : decode cX10_layWaters 78 = .ok (.if_icmp .ge 31, 3) := by decide +kernel
theorem dX10_layWaters_81 : decode cX10_layWaters 81 = .ok (.aload_n 0, 1) := by decide +kernel
theorem dX10_layWaters_82 : decode cX10_layWaters 82 = .ok (.getfield 76, 3) := by decide +kernel
theorem dX10_layWaters_85 : decode cX10_layWaters 85 = .ok (.bipush 16, 2) := by decide +kernel
theorem dX10_layWaters_87 : decode cX10_layWaters 87 = .ok (.aload_n 0, 1) := by decide +kernel
theorem dX10_layWaters_88 : decode cX10_layWaters 88 = .ok (.getfield 379, 3) := by decide +kernel
theorem dX10_layWaters_91 : decode cX10_layWaters 91 = .ok (.imul, 1) := by decide +kernel
theorem dX10_layWaters_92 : decode cX10_layWaters 92 = .ok (.iload 5, 2) := by decide +kernel
theorem dX10_layWaters_94 : decode cX10_layWaters 94 = .ok (.iadd, 1) := by decide +kernel
theorem dX10_layWaters_95 : decode cX10_layWaters 95 = .ok (.aload_n 0, 1) := by decide +kernel
theorem dX10_layWaters_96 : decode cX10_layWaters 96 = .ok (.iload_n 2, 1) := by decide +kernel
theorem dX10_layWaters_97 : decode cX10_layWaters 97 = .ok (.iload 5, 2) := by decide +kernel
theorem dX10_layWaters_99 : decode cX10_layWaters 99 = .ok (.invokevirtual 294, 3) := by decide +kernel
theorem dX10_layWaters_102 : decode cX10_layWaters 102 = .ok (.iastore, 1) := by decide +kernel
theorem dX10_layWaters_103 : decode cX10_layWaters 103 = .ok (.iinc 5 1, 3) := by decide +kernel
theorem dX10_layWaters_106 : decode cX10_layWaters 106 = .ok (.goto (-34), 3) := by decide +kernel
theorem dX10_layWaters_109 : decode cX10_layWaters 109 = .ok (.aload_n 0, 1) := by decide +kernel
theorem dX10_layWaters_110 : decode cX10_layWaters 110 = .ok (.dup, 1) := by decide +kernel
theorem dX10_layWaters_111 : decode cX10_layWaters 111 = .ok (.getfield 379, 3) := by decide +kernel
theorem dX10_layWaters_114 : decode cX10_layWaters 114 = .ok (.iconst 1, 1) := by decide +kernel
theorem dX10_layWaters_115 : decode cX10_layWaters 115 = .ok (.iadd, 1) := by decide +kernel
theorem dX10_layWaters_116 : decode cX10_layWaters 116 = .ok (.putfield 379, 3) := by decide +kernel
theorem dX10_layWaters_119 : decode cX10_layWaters 119 = .ok (.iinc 4 1, 3) := by decide +kernel
theorem dX10_layWaters_122 : decode cX10_layWaters 122 = .ok (.goto (-90), 3) := by decide +kernel
theorem dX10_layWaters_125 : decode cX10_layWaters 125 = .ok (.iconst 0, 1) := by decide +kernel
theorem dX10_layWaters_126 : decode cX10_layWaters 126 = .ok (.ireturn, 1) := by decide +kernel
theorem dX10_waters_0 : decode cX10_waters 0 = .ok (.aload_n 0, 1) := by decide +kernel
theorem dX10_waters_1 : decode cX10_waters 1 = .ok (.iload_n 1, 1) := by decide +kernel
theorem dX10_waters_2 : decode cX10_waters 2 = .ok (.iload_n 2, 1) := by decide +kernel
theorem dX10_waters_3 : decode cX10_waters 3 = .ok (.invokevirtual 385, 3) := by decide +kernel
theorem dX10_waters_6 : decode cX10_waters 6 = .ok (.istore_n 3, 1) := by decide +kernel
theorem dX10_waters_7 : decode cX10_waters 7 = .ok (.iload_n 3, 1) := by decide +kernel
theorem dX10_waters_8 : decode cX10_waters 8 = .ok (.ifCond .ge 7, 3) := by decide +kernel
theorem dX10_waters_11 : decode cX10_waters 11 = .ok (.iload_n 3, 1) := by decide +kernel
theorem dX10_waters_12 : decode cX10_waters 12 = .ok (.goto 7, 3) := by decide +kernel
theorem dX10_waters_15 : decode cX10_waters 15 = .ok (.aload_n 0, 1) := by decide +kernel
theorem dX10_waters_16 : decode cX10_waters 16 = .ok (.getfield 379, 3) := by decide +kernel
theorem dX10_waters_19 : decode cX10_waters 19 = .ok (.ireturn, 1) := by decide +kernel
theorem dX10_least_0 : decode cX10_least 0 = .ok (.aload_n 0, 1) := by decide +kernel
theorem dX10_least_1 : decode cX10_least 1 = .ok (.iload_n 1, 1) := by decide +kernel
theorem dX10_least_2 : decode cX10_least 2 = .ok (.iload_n 2, 1) := by decide +kernel
theorem dX10_least_3 : decode cX10_least 3 = .ok (.invokevirtual 385, 3) := by decide +kernel
theorem dX10_least_6 : decode cX10_least 6 = .ok (.istore_n 3, 1) := by decide +kernel
theorem dX10_least_7 : decode cX10_least 7 = .ok (.iload_n 3, 1) := by decide +kernel
theorem dX10_least_8 : decode cX10_least 8 = .ok (.ifCond .ge 7, 3) := by decide +kernel
theorem dX10_least_11 : decode cX10_least 11 = .ok (.iload_n 3, 1) := by decide +kernel
theorem dX10_least_12 : decode cX10_least 12 = .ok (.goto 20, 3) := by decide +kernel
theorem dX10_least_15 : decode cX10_least 15 = .ok (.aload_n 0, 1) := by decide +kernel
theorem dX10_least_16 : decode cX10_least 16 = .ok (.getfield 379, 3) := by decide +kernel
theorem dX10_least_19 : decode cX10_least 19 = .ok (.ifCond .ne 7, 3) := by decide +kernel
theorem dX10_least_22 : decode cX10_least 22 = .ok (.iconst (-1), 1) := by decide +kernel
theorem dX10_least_23 : decode cX10_least 23 = .ok (.goto 9, 3) := by decide +kernel
theorem dX10_least_26 : decode cX10_least 26 = .ok (.aload_n 0, 1) := by decide +kernel
theorem dX10_least_27 : decode cX10_least 27 = .ok (.getfield 73, 3) := by decide +kernel
theorem dX10_least_30 : decode cX10_least 30 = .ok (.iconst 0, 1) := by decide +kernel
theorem dX10_least_31 : decode cX10_least 31 = .ok (.iaload, 1) := by decide +kernel
theorem dX10_least_32 : decode cX10_least 32 = .ok (.ireturn, 1) := by decide +kernel
theorem dX10_greatest_0 : decode cX10_greatest 0 = .ok (.aload_n 0, 1) := by decide +kernel
theorem dX10_greatest_1 : decode cX10_greatest 1 = .ok (.iload_n 1, 1) := by decide +kernel
theorem dX10_greatest_2 : decode cX10_greatest 2 = .ok (.iload_n 2, 1) := by decide +kernel
theorem dX10_greatest_3 : decode cX10_greatest 3 = .ok (.invokevirtual 385, 3) := by decide +kernel
theorem dX10_greatest_6 : decode cX10_greatest 6 = .ok (.istore_n 3, 1) := by decide +kernel
theorem dX10_greatest_7 : decode cX10_greatest 7 = .ok (.iload_n 3, 1) := by decide +kernel
theorem dX10_greatest_8 : decode cX10_greatest 8 = .ok (.ifCond .ge 7, 3) := by decide +kernel
theorem dX10_greatest_11 : decode cX10_greatest 11 = .ok (.iload_n 3, 1) := by decide +kernel
theorem dX10_greatest_12 : decode cX10_greatest 12 = .ok (.goto 25, 3) := by decide +kernel
theorem dX10_greatest_15 : decode cX10_greatest 15 = .ok (.aload_n 0, 1) := by decide +kernel
theorem dX10_greatest_16 : decode cX10_greatest 16 = .ok (.getfield 379, 3) := by decide +kernel
theorem dX10_greatest_19 : decode cX10_greatest 19 = .ok (.ifCond .ne 7, 3) := by decide +kernel
theorem dX10_greatest_22 : decode cX10_greatest 22 = .ok (.iconst (-1), 1) := by decide +kernel
theorem dX10_greatest_23 : decode cX10_greatest 23 = .ok (.goto 14, 3) := by decide +kernel
theorem dX10_greatest_26 : decode cX10_greatest 26 = .ok (.aload_n 0, 1) := by decide +kernel
theorem dX10_greatest_27 : decode cX10_greatest 27 = .ok (.getfield 73, 3) := by decide +kernel
theorem dX10_greatest_30 : decode cX10_greatest 30 = .ok (.aload_n 0, 1) := by decide +kernel
theorem dX10_greatest_31 : decode cX10_greatest 31 = .ok (.getfield 379, 3) := by decide +kernel
theorem dX10_greatest_34 : decode cX10_greatest 34 = .ok (.iconst 1, 1) := by decide +kernel
theorem dX10_greatest_35 : decode cX10_greatest 35 = .ok (.isub, 1) := by decide +kernel
theorem dX10_greatest_36 : decode cX10_greatest 36 = .ok (.iaload, 1) := by decide +kernel
theorem dX10_greatest_37 : decode cX10_greatest 37 = .ok (.ireturn, 1) := by decide +kernel
theorem dX10_askOf_0 : decode cX10_askOf 0 = .ok (.aload_n 0, 1) := by decide +kernel
theorem dX10_askOf_1 : decode cX10_askOf 1 = .ok (.aload_n 0, 1) := by decide +kernel
theorem dX10_askOf_2 : decode cX10_askOf 2 = .ok (.getfield 379, 3) := by decide +kernel
theorem dX10_askOf_5 : decode cX10_askOf 5 = .ok (.putfield 388, 3) := by decide +kernel
theorem dX10_askOf_8 : decode cX10_askOf 8 = .ok (.iconst (-1), 1) := by decide +kernel
theorem dX10_askOf_9 : decode cX10_askOf 9 = .ok (.istore_n 1, 1) := by decide +kernel
theorem dX10_askOf_10 : decode cX10_askOf 10 = .ok (.iconst 0, 1) := by decide +kernel
theorem dX10_askOf_11 : decode cX10_askOf 11 = .ok (.istore_n 2, 1) := by decide +kernel
theorem dX10_askOf_12 : decode cX10_askOf 12 = .ok (.iload_n 2, 1) := by decide +kernel
theorem dX10_askOf_13 : decode cX10_askOf 13 = .ok (.aload_n 0, 1) := by decide +kernel
theorem dX10_askOf_14 : decode cX10_askOf 14 = .ok (.invokevirtual 271, 3) := by decide +kernel
theorem dX10_askOf_17 : decode cX10_askOf 17 = .ok (.if_icmp .ge 112, 3) := by decide +kernel
theorem dX10_askOf_20 : decode cX10_askOf 20 = .ok (.iconst 0, 1) := by decide +kernel
theorem dX10_askOf_21 : decode cX10_askOf 21 = .ok (.istore_n 3, 1) := by decide +kernel
theorem dX10_askOf_22 : decode cX10_askOf 22 = .ok (.iconst 0, 1) := by decide +kernel
theorem dX10_askOf_23 : decode cX10_askOf 23 = .ok (.istore 4, 2) := by decide +kernel
theorem dX10_askOf_25 : decode cX10_askOf 25 = .ok (.iload 4, 2) := by decide +kernel
theorem dX10_askOf_27 : decode cX10_askOf 27 = .ok (.aload_n 0, 1) := by decide +kernel
theorem dX10_askOf_28 : decode cX10_askOf 28 = .ok (.getfield 379, 3) := by decide +kernel
theorem dX10_askOf_31 : decode cX10_askOf 31 = .ok (.if_icmp .ge 74, 3) := by decide +kernel
theorem dX10_askOf_34 : decode cX10_askOf 34 = .ok (.iconst 0, 1) := by decide +kernel
theorem dX10_askOf_35 : decode cX10_askOf 35 = .ok (.istore 5, 2) := by decide +kernel
theorem dX10_askOf_37 : decode cX10_askOf 37 = .ok (.iconst 0, 1) := by decide +kernel
theorem dX10_askOf_38 : decode cX10_askOf 38 = .ok (.istore 6, 2) := by decide +kernel
theorem dX10_askOf_40 : decode cX10_askOf 40 = .ok (.iload 6, 2) := by decide +kernel
theorem dX10_askOf_42 : decode cX10_askOf 42 = .ok (.aload_n 0, 1) := by decide +kernel
theorem dX10_askOf_43 : decode cX10_askOf 43 = .ok (.getfield 379, 3) := by decide +kernel
theorem dX10_askOf_46 : decode cX10_askOf 46 = .ok (.if_icmp .ge 46, 3) := by decide +kernel
theorem dX10_askOf_49 : decode cX10_askOf 49 = .ok (.iload 5, 2) := by decide +kernel
theorem dX10_askOf_51 : decode cX10_askOf 51 = .ok (.aload_n 0, 1) := by decide +kernel
theorem dX10_askOf_52 : decode cX10_askOf 52 = .ok (.getfield 76, 3) := by decide +kernel
theorem dX10_askOf_55 : decode cX10_askOf 55 = .ok (.bipush 16, 2) := by decide +kernel
theorem dX10_askOf_57 : decode cX10_askOf 57 = .ok (.iload 4, 2) := by decide +kernel
theorem dX10_askOf_59 : decode cX10_askOf 59 = .ok (.imul, 1) := by decide +kernel
theorem dX10_askOf_60 : decode cX10_askOf 60 = .ok (.iload_n 2, 1) := by decide +kernel
theorem dX10_askOf_61 : decode cX10_askOf 61 = .ok (.iadd, 1) := by decide +kernel
theorem dX10_askOf_62 : decode cX10_askOf 62 = .ok (.iaload, 1) := by decide +kernel
theorem dX10_askOf_63 : decode cX10_askOf 63 = .ok (.aload_n 0, 1) := by decide +kernel
theorem dX10_askOf_64 : decode cX10_askOf 64 = .ok (.getfield 76, 3) := by decide +kernel
theorem dX10_askOf_67 : decode cX10_askOf 67 = .ok (.bipush 16, 2) := by decide +kernel
theorem dX10_askOf_69 : decode cX10_askOf 69 = .ok (.iload 6, 2) := by decide +kernel
theorem dX10_askOf_71 : decode cX10_askOf 71 = .ok (.imul, 1) := by decide +kernel
theorem dX10_askOf_72 : decode cX10_askOf 72 = .ok (.iload_n 2, 1) := by decide +kernel
theorem dX10_askOf_73 : decode cX10_askOf 73 = .ok (.iadd, 1) := by decide +kernel
theorem dX10_askOf_74 : decode cX10_askOf 74 = .ok (.iaload, 1) := by decide +kernel
theorem dX10_askOf_75 : decode cX10_askOf 75 = .ok (.if_icmp .ne 7, 3) := by decide +kernel
theorem dX10_askOf_78 : decode cX10_askOf 78 = .ok (.iconst 1, 1) := by decide +kernel
theorem dX10_askOf_79 : decode cX10_askOf 79 = .ok (.goto 4, 3) := by decide +kernel
theorem dX10_askOf_82 : decode cX10_askOf 82 = .ok (.iconst 0, 1) := by decide +kernel
theorem dX10_askOf_83 : decode cX10_askOf 83 = .ok (.iadd, 1) := by decide +kernel
theorem dX10_askOf_84 : decode cX10_askOf 84 = .ok (.istore 5, 2) := by decide +kernel
theorem dX10_askOf_86 : decode cX10_askOf 86 = .ok (.iinc 6 1, 3) := by decide +kernel
theorem dX10_askOf_89 : decode cX10_askOf 89 = .ok (.goto (-49), 3) := by decide +kernel
theorem dX10_askOf_92 : decode cX10_askOf 92 = .ok (.iload_n 3, 1) := by decide +kernel
theorem dX10_askOf_93 : decode cX10_askOf 93 = .ok (.iload 5, 2) := by decide +kernel
theorem dX10_askOf_95 : decode cX10_askOf 95 = .ok (.invokestatic 255, 3) := by decide +kernel
theorem dX10_askOf_98 : decode cX10_askOf 98 = .ok (.istore_n 3, 1) := by decide +kernel
theorem dX10_askOf_99 : decode cX10_askOf 99 = .ok (.iinc 4 1, 3) := by decide +kernel
theorem dX10_askOf_102 : decode cX10_askOf 102 = .ok (.goto (-77), 3) := by decide +kernel
theorem dX10_askOf_105 : decode cX10_askOf 105 = .ok (.iload_n 3, 1) := by decide +kernel
theorem dX10_askOf_106 : decode cX10_askOf 106 = .ok (.aload_n 0, 1) := by decide +kernel
theorem dX10_askOf_107 : decode cX10_askOf 107 = .ok (.getfield 388, 3) := by decide +kernel
theorem dX10_askOf_110 : decode cX10_askOf 110 = .ok (.if_icmp .lt 6, 3) := by decide +kernel
theorem dX10_askOf_113 : decode cX10_askOf 113 = .ok (.goto 10, 3) := by decide +kernel
theorem dX10_askOf_116 : decode cX10_askOf 116 = .ok (.aload_n 0, 1) := by decide +kernel
theorem dX10_askOf_117 : decode cX10_askOf 117 = .ok (.iload_n 3, 1) := by decide +kernel
theorem dX10_askOf_118 : decode cX10_askOf 118 = .ok (.putfield 388, 3) := by decide +kernel
theorem dX10_askOf_121 : decode cX10_askOf 121 = .ok (.iload_n 2, 1) := by decide +kernel
theorem dX10_askOf_122 : decode cX10_askOf 122 = .ok (.istore_n 1, 1) := by decide +kernel
theorem dX10_askOf_123 : decode cX10_askOf 123 = .ok (.iinc 2 1, 3) := by decide +kernel
theorem dX10_askOf_126 : decode cX10_askOf 126 = .ok (.goto (-114), 3) := by decide +kernel
theorem dX10_askOf_129 : decode cX10_askOf 129 = .ok (.iload_n 1, 1) := by decide +kernel
theorem dX10_askOf_130 : decode cX10_askOf 130 = .ok (.ireturn, 1) := by decide +kernel
theorem dX10_ask_0 : decode cX10_ask 0 = .ok (.aload_n 0, 1) := by decide +kernel
theorem dX10_ask_1 : decode cX10_ask 1 = .ok (.iload_n 1, 1) := by decide +kernel
theorem dX10_ask_2 : decode cX10_ask 2 = .ok (.iload_n 2, 1) := by decide +kernel
theorem dX10_ask_3 : decode cX10_ask 3 = .ok (.invokevirtual 385, 3) := by decide +kernel
theorem dX10_ask_6 : decode cX10_ask 6 = .ok (.istore_n 3, 1) := by decide +kernel
theorem dX10_ask_7 : decode cX10_ask 7 = .ok (.iload_n 3, 1) := by decide +kernel
theorem dX10_ask_8 : decode cX10_ask 8 = .ok (.ifCond .ge 7, 3) := by decide +kernel
theorem dX10_ask_11 : decode cX10_ask 11 = .ok (.iload_n 3, 1) := by decide +kernel
theorem dX10_ask_12 : decode cX10_ask 12 = .ok (.goto 7, 3) := by decide +kernel
theorem dX10_ask_15 : decode cX10_ask 15 = .ok (.aload_n 0, 1) := by decide +kernel
theorem dX10_ask_16 : decode cX10_ask 16 = .ok (.invokevirtual 391, 3) := by decide +kernel
theorem dX10_ask_19 : decode cX10_ask 19 = .ok (.ireturn, 1) := by decide +kernel
theorem dX10_leaves_0 : decode cX10_leaves 0 = .ok (.aload_n 0, 1) := by decide +kernel
theorem dX10_leaves_1 : decode cX10_leaves 1 = .ok (.iload_n 1, 1) := by decide +kernel
theorem dX10_leaves_2 : decode cX10_leaves 2 = .ok (.iload_n 2, 1) := by decide +kernel
theorem dX10_leaves_3 : decode cX10_leaves 3 = .ok (.invokevirtual 385, 3) := by decide +kernel
theorem dX10_leaves_6 : decode cX10_leaves 6 = .ok (.istore_n 3, 1) := by decide +kernel
theorem dX10_leaves_7 : decode cX10_leaves 7 = .ok (.iload_n 3, 1) := by decide +kernel
theorem dX10_leaves_8 : decode cX10_leaves 8 = .ok (.ifCond .ge 5, 3) := by decide +kernel
theorem dX10_leaves_11 : decode cX10_leaves 11 = .ok (.iload_n 3, 1) := by decide +kernel
theorem dX10_leaves_12 : decode cX10_leaves 12 = .ok (.ireturn, 1) := by decide +kernel
theorem dX10_leaves_13 : decode cX10_leaves 13 = .ok (.aload_n 0, 1) := by decide +kernel
theorem dX10_leaves_14 : decode cX10_leaves 14 = .ok (.invokevirtual 391, 3) := by decide +kernel
theorem dX10_leaves_17 : decode cX10_leaves 17 = .ok (.pop, 1) := by decide +kernel
theorem dX10_leaves_18 : decode cX10_leaves 18 = .ok (.aload_n 0, 1) := by decide +kernel
theorem dX10_leaves_19 : decode cX10_leaves 19 = .ok (.getfield 388, 3) := by decide +kernel
theorem dX10_leaves_22 : decode cX10_leaves 22 = .ok (.ireturn, 1) := by decide +kernel
theorem dX10_laws_0 : decode cX10_laws 0 = .ok (.aload_n 0, 1) := by decide +kernel
theorem dX10_laws_1 : decode cX10_laws 1 = .ok (.iload_n 1, 1) := by decide +kernel
theorem dX10_laws_2 : decode cX10_laws 2 = .ok (.invokevirtual 376, 3) := by decide +kernel
theorem dX10_laws_5 : decode cX10_laws 5 = .ok (.istore_n 2, 1) := by decide +kernel
theorem dX10_laws_6 : decode cX10_laws 6 = .ok (.iload_n 2, 1) := by decide +kernel
theorem dX10_laws_7 : decode cX10_laws 7 = .ok (.ifCond .ge 5, 3) := by decide +kernel
theorem dX10_laws_10 : decode cX10_laws 10 = .ok (.iload_n 2, 1) := by decide +kernel
theorem dX10_laws_11 : decode cX10_laws 11 = .ok (.ireturn, 1) := by decide +kernel
theorem dX10_laws_12 : decode cX10_laws 12 = .ok (.iconst 0, 1) := by decide +kernel
theorem dX10_laws_13 : decode cX10_laws 13 = .ok (.istore_n 3, 1) := by decide +kernel
theorem dX10_laws_14 : decode cX10_laws 14 = .ok (.aload_n 0, 1) := by decide +kernel
theorem dX10_laws_15 : decode cX10_laws 15 = .ok (.iconst 0, 1) := by decide +kernel
theorem dX10_laws_16 : decode cX10_laws 16 = .ok (.putfield 246, 3) := by decide +kernel
theorem dX10_laws_19 : decode cX10_laws 19 = .ok (.aload_n 0, 1) := by decide +kernel
theorem dX10_laws_20 : decode cX10_laws 20 = .ok (.getfield 246, 3) := by decide +kernel
theorem dX10_laws_23 : decode cX10_laws 23 = .ok (.iconst 4, 1) := by decide +kernel
theorem dX10_laws_24 : decode cX10_laws 24 = .ok (.if_icmp .ge 37, 3) := by decide +kernel
theorem dX10_laws_27 : decode cX10_laws 27 = .ok (.iload_n 3, 1) := by decide +kernel
theorem dX10_laws_28 : decode cX10_laws 28 = .ok (.aload_n 0, 1) := by decide +kernel
theorem dX10_laws_29 : decode cX10_laws 29 = .ok (.iload_n 1, 1) := by decide +kernel
theorem dX10_laws_30 : decode cX10_laws 30 = .ok (.invokevirtual 382, 3) := by decide +kernel
theorem dX10_laws_33 : decode cX10_laws 33 = .ok (.ifCond .eq 12, 3) := by decide +kernel
theorem dX10_laws_36 : decode cX10_laws 36 = .ok (.iconst 1, 1) := by decide +kernel
theorem dX10_laws_37 : decode cX10_laws 37 = .ok (.aload_n 0, 1) := by decide +kernel
theorem dX10_laws_38 : decode cX10_laws 38 = .ok (.getfield 246, 3) := by decide +kernel
theorem dX10_laws_41 : decode cX10_laws 41 = .ok (.ishl, 1) := by decide +kernel
theorem dX10_laws_42 : decode cX10_laws 42 = .ok (.goto 4, 3) := by decide +kernel
theorem dX10_laws_45 : decode cX10_laws 45 = .ok (.iconst 0, 1) := by decide +kernel
theorem dX10_laws_46 : decode cX10_laws 46 = .ok (.ior, 1) := by decide +kernel
theorem dX10_laws_47 : decode cX10_laws 47 = .ok (.istore_n 3, 1) := by decide +kernel
theorem dX10_laws_48 : decode cX10_laws 48 = .ok (.aload_n 0, 1) := by decide +kernel
theorem dX10_laws_49 : decode cX10_laws 49 = .ok (.dup, 1) := by decide +kernel
theorem dX10_laws_50 : decode cX10_laws 50 = .ok (.getfield 246, 3) := by decide +kernel
theorem dX10_laws_53 : decode cX10_laws 53 = .ok (.iconst 1, 1) := by decide +kernel
theorem dX10_laws_54 : decode cX10_laws 54 = .ok (.iadd, 1) := by decide +kernel
theorem dX10_laws_55 : decode cX10_laws 55 = .ok (.putfield 246, 3) := by decide +kernel
theorem dX10_laws_58 : decode cX10_laws 58 = .ok (.goto (-39), 3) := by decide +kernel
theorem dX10_laws_61 : decode cX10_laws 61 = .ok (.iload_n 3, 1) := by decide +kernel
theorem dX10_laws_62 : decode cX10_laws 62 = .ok (.ireturn, 1) := by decide +kernel
theorem dX10_keptWith_0 : decode cX10_keptWith 0 = .ok (.aload_n 0, 1) := by decide +kernel
theorem dX10_keptWith_1 : decode cX10_keptWith 1 = .ok (.iload_n 1, 1) := by decide +kernel
theorem dX10_keptWith_2 : decode cX10_keptWith 2 = .ok (.putfield 249, 3) := by decide +kernel
theorem dX10_keptWith_5 : decode cX10_keptWith 5 = .ok (.aload_n 0, 1) := by decide +kernel
theorem dX10_keptWith_6 : decode cX10_keptWith 6 = .ok (.invokevirtual 343, 3) := by decide +kernel
theorem dX10_keptWith_9 : decode cX10_keptWith 9 = .ok (.ireturn, 1) := by decide +kernel
theorem dX10_worth_0 : decode cX10_worth 0 = .ok (.aload_n 0, 1) := by decide +kernel
theorem dX10_worth_1 : decode cX10_worth 1 = .ok (.invokevirtual 285, 3) := by decide +kernel
theorem dX10_worth_4 : decode cX10_worth 4 = .ok (.pop, 1) := by decide +kernel
theorem dX10_worth_5 : decode cX10_worth 5 = .ok (.aload_n 0, 1) := by decide +kernel
theorem dX10_worth_6 : decode cX10_worth 6 = .ok (.invokevirtual 282, 3) := by decide +kernel
theorem dX10_worth_9 : decode cX10_worth 9 = .ok (.ifCond .eq 29, 3) := by decide +kernel
theorem dX10_worth_12 : decode cX10_worth 12 = .ok (.iload_n 1, 1) := by decide +kernel
theorem dX10_worth_13 : decode cX10_worth 13 = .ok (.i2l, 1) := by decide +kernel
theorem dX10_worth_14 : decode cX10_worth 14 = .ok (.lconst 0, 1) := by decide +kernel
theorem dX10_worth_15 : decode cX10_worth 15 = .ok (.iconst 1, 1) := by decide +kernel
theorem dX10_worth_16 : decode cX10_worth 16 = .ok (.aload_n 0, 1) := by decide +kernel
theorem dX10_worth_17 : decode cX10_worth 17 = .ok (.invokevirtual 261, 3) := by decide +kernel
theorem dX10_worth_20 : decode cX10_worth 20 = .ok (.ishl, 1) := by decide +kernel
theorem dX10_worth_21 : decode cX10_worth 21 = .ok (.iconst 1, 1) := by decide +kernel
theorem dX10_worth_22 : decode cX10_worth 22 = .ok (.isub, 1) := by decide +kernel
theorem dX10_worth_23 : decode cX10_worth 23 = .ok (.i2l, 1) := by decide +kernel
theorem dX10_worth_24 : decode cX10_worth 24 = .ok (.invokestatic 100, 3) := by decide +kernel
theorem dX10_worth_27 : decode cX10_worth 27 = .ok (.ifCond .eq 11, 3) := by decide +kernel
theorem dX10_worth_30 : decode cX10_worth 30 = .ok (.aload_n 0, 1) := by decide +kernel
theorem dX10_worth_31 : decode cX10_worth 31 = .ok (.iload_n 1, 1) := by decide +kernel
theorem dX10_worth_32 : decode cX10_worth 32 = .ok (.invokevirtual 394, 3) := by decide +kernel
theorem dX10_worth_35 : decode cX10_worth 35 = .ok (.goto 5, 3) := by decide +kernel
theorem dX10_worth_38 : decode cX10_worth 38 = .ok (.bipush (-2), 2) := by decide +kernel
theorem dX10_worth_40 : decode cX10_worth 40 = .ok (.ireturn, 1) := by decide +kernel
theorem dX10_factorial_0 : decode cX10_factorial 0 = .ok (.iconst 1, 1) := by decide +kernel
theorem dX10_factorial_1 : decode cX10_factorial 1 = .ok (.istore_n 1, 1) := by decide +kernel
theorem dX10_factorial_2 : decode cX10_factorial 2 = .ok (.iconst 2, 1) := by decide +kernel
theorem dX10_factorial_3 : decode cX10_factorial 3 = .ok (.istore_n 2, 1) := by decide +kernel
theorem dX10_factorial_4 : decode cX10_factorial 4 = .ok (.iload_n 2, 1) := by decide +kernel
theorem dX10_factorial_5 : decode cX10_factorial 5 = .ok (.iload_n 0, 1) := by decide +kernel
theorem dX10_factorial_6 : decode cX10_factorial 6 = .ok (.if_icmp .gt 13, 3) := by decide +kernel
theorem dX10_factorial_9 : decode cX10_factorial 9 = .ok (.iload_n 1, 1) := by decide +kernel
theorem dX10_factorial_10 : decode cX10_factorial 10 = .ok (.iload_n 2, 1) := by decide +kernel
theorem dX10_factorial_11 : decode cX10_factorial 11 = .ok (.imul, 1) := by decide +kernel
theorem dX10_factorial_12 : decode cX10_factorial 12 = .ok (.istore_n 1, 1) := by decide +kernel
theorem dX10_factorial_13 : decode cX10_factorial 13 = .ok (.iinc 2 1, 3) := by decide +kernel
theorem dX10_factorial_16 : decode cX10_factorial 16 = .ok (.goto (-12), 3) := by decide +kernel
theorem dX10_factorial_19 : decode cX10_factorial 19 = .ok (.iload_n 1, 1) := by decide +kernel
theorem dX10_factorial_20 : decode cX10_factorial 20 = .ok (.ireturn, 1) := by decide +kernel
theorem dX10_divisor_0 : decode cX10_divisor 0 = .ok (.lload_n 0, 1) := by decide +kernel
theorem dX10_divisor_1 : decode cX10_divisor 1 = .ok (.invokestatic 397, 3) := by decide +kernel
theorem dX10_divisor_4 : decode cX10_divisor 4 = .ok (.lstore 4, 2) := by decide +kernel
theorem dX10_divisor_6 : decode cX10_divisor 6 = .ok (.lload_n 2, 1) := by decide +kernel
theorem dX10_divisor_7 : decode cX10_divisor 7 = .ok (.lstore 6, 2) := by decide +kernel
theorem dX10_divisor_9 : decode cX10_divisor 9 = .ok (.lload 6, 2) := by decide +kernel
theorem dX10_divisor_11 : decode cX10_divisor 11 = .ok (.lconst 0, 1) := by decide +kernel
theorem dX10_divisor_12 : decode cX10_divisor 12 = .ok (.lcmp, 1) := by decide +kernel
theorem dX10_divisor_13 : decode cX10_divisor 13 = .ok (.ifCond .eq 21, 3) := by decide +kernel
theorem dX10_divisor_16 : decode cX10_divisor 16 = .ok (.lload 4, 2) := by decide +kernel
theorem dX10_divisor_18 : decode cX10_divisor 18 = .ok (.lload 6, 2) := by decide +kernel
theorem dX10_divisor_20 : decode cX10_divisor 20 = .ok (.lrem, 1) := by decide +kernel
theorem dX10_divisor_21 : decode cX10_divisor 21 = .ok (.lstore 8, 2) := by decide +kernel
theorem dX10_divisor_23 : decode cX10_divisor 23 = .ok (.lload 6, 2) := by decide +kernel
theorem dX10_divisor_25 : decode cX10_divisor 25 = .ok (.lstore 4, 2) := by decide +kernel
theorem dX10_divisor_27 : decode cX10_divisor 27 = .ok (.lload 8, 2) := by decide +kernel
theorem dX10_divisor_29 : decode cX10_divisor 29 = .ok (.lstore 6, 2) := by decide +kernel
theorem dX10_divisor_31 : decode cX10_divisor 31 = .ok (.goto (-22), 3) := by decide +kernel
theorem dX10_divisor_34 : decode cX10_divisor 34 = .ok (.lload 4, 2) := by decide +kernel
theorem dX10_divisor_36 : decode cX10_divisor 36 = .ok (.lreturn, 1) := by decide +kernel
theorem dX10_part_0 : decode cX10_part 0 = .ok (.iload 4, 2) := by decide +kernel
theorem dX10_part_2 : decode cX10_part 2 = .ok (.ifCond .ne 7, 3) := by decide +kernel
theorem dX10_part_5 : decode cX10_part 5 = .ok (.lload_n 0, 1) := by decide +kernel
theorem dX10_part_6 : decode cX10_part 6 = .ok (.goto 4, 3) := by decide +kernel
theorem dX10_part_9 : decode cX10_part 9 = .ok (.lload_n 2, 1) := by decide +kernel
theorem dX10_part_10 : decode cX10_part 10 = .ok (.lload_n 0, 1) := by decide +kernel
theorem dX10_part_11 : decode cX10_part 11 = .ok (.lload_n 2, 1) := by decide +kernel
theorem dX10_part_12 : decode cX10_part 12 = .ok (.invokestatic 401, 3) := by decide +kernel
theorem dX10_part_15 : decode cX10_part 15 = .ok (.ldiv, 1) := by decide +kernel
theorem dX10_part_16 : decode cX10_part 16 = .ok (.lreturn, 1) := by decide +kernel
theorem dX10_share_0 : decode cX10_share 0 = .ok (.aload_n 0, 1) := by decide +kernel
theorem dX10_share_1 : decode cX10_share 1 = .ok (.iload_n 1, 1) := by decide +kernel
theorem dX10_share_2 : decode cX10_share 2 = .ok (.invokevirtual 297, 3) := by decide +kernel
theorem dX10_share_5 : decode cX10_share 5 = .ok (.ifCond .eq 13, 3) := by decide +kernel
theorem dX10_share_8 : decode cX10_share 8 = .ok (.iload_n 2, 1) := by decide +kernel
theorem dX10_share_9 : decode cX10_share 9 = .ok (.i2l, 1) := by decide +kernel
theorem dX10_share_10 : decode cX10_share 10 = .ok (.lconst 0, 1) := by decide +kernel
theorem dX10_share_11 : decode cX10_share 11 = .ok (.lconst 1, 1) := by decide +kernel
theorem dX10_share_12 : decode cX10_share 12 = .ok (.invokestatic 100, 3) := by decide +kernel
theorem dX10_share_15 : decode cX10_share 15 = .ok (.ifCond .ne 6, 3) := by decide +kernel
theorem dX10_share_18 : decode cX10_share 18 = .ok (.bipush (-2), 2) := by decide +kernel
theorem dX10_share_20 : decode cX10_share 20 = .ok (.ireturn, 1) := by decide +kernel
theorem dX10_share_21 : decode cX10_share 21 = .ok (.aload_n 0, 1) := by decide +kernel
theorem dX10_share_22 : decode cX10_share 22 = .ok (.invokevirtual 261, 3) := by decide +kernel
theorem dX10_share_25 : decode cX10_share 25 = .ok (.istore_n 3, 1) := by decide +kernel
theorem dX10_share_26 : decode cX10_share 26 = .ok (.iconst 0, 1) := by decide +kernel
theorem dX10_share_27 : decode cX10_share 27 = .ok (.istore 4, 2) := by decide +kernel
theorem dX10_share_29 : decode cX10_share 29 = .ok (.iload 4, 2) := by decide +kernel
theorem dX10_share_31 : decode cX10_share 31 = .ok (.iconst 1, 1) := by decide +kernel
theorem dX10_share_32 : decode cX10_share 32 = .ok (.iload_n 3, 1) := by decide +kernel
theorem dX10_share_33 : decode cX10_share 33 = .ok (.ishl, 1) := by decide +kernel
theorem dX10_share_34 : decode cX10_share 34 = .ok (.if_icmp .ge 22, 3) := by decide +kernel
theorem dX10_share_37 : decode cX10_share 37 = .ok (.aload_n 0, 1) := by decide +kernel
theorem dX10_share_38 : decode cX10_share 38 = .ok (.getfield 79, 3) := by decide +kernel
theorem dX10_share_41 : decode cX10_share 41 = .ok (.iload 4, 2) := by decide +kernel
theorem dX10_share_43 : decode cX10_share 43 = .ok (.aload_n 0, 1) := by decide +kernel
theorem dX10_share_44 : decode cX10_share 44 = .ok (.iload 4, 2) := by decide +kernel
theorem dX10_share_46 : decode cX10_share 46 = .ok (.invokevirtual 394, 3) := by decide +kernel
theorem dX10_share_49 : decode cX10_share 49 = .ok (.iastore, 1) := by decide +kernel
theorem dX10_share_50 : decode cX10_share 50 = .ok (.iinc 4 1, 3) := by decide +kernel
theorem dX10_share_53 : decode cX10_share 53 = .ok (.goto (-24), 3) := by decide +kernel
theorem dX10_share_56 : decode cX10_share 56 = .ok (.iconst 0, 1) := by decide +kernel
theorem dX10_share_57 : decode cX10_share 57 = .ok (.istore 4, 2) := by decide +kernel
theorem dX10_share_59 : decode cX10_share 59 = .ok (.iconst 0, 1) := by decide +kernel
theorem dX10_share_60 : decode cX10_share 60 = .ok (.istore 5, 2) := by decide +kernel
theorem dX10_share_62 : decode cX10_share 62 = .ok (.iload 5, 2) := by decide +kernel
theorem dX10_share_64 : decode cX10_share 64 = .ok (.iconst 1, 1) := by decide +kernel
theorem dX10_share_65 : decode cX10_share 65 = .ok (.iload_n 3, 1) := by decide +kernel
theorem dX10_share_66 : decode cX10_share 66 = .ok (.ishl, 1) := by decide +kernel
theorem dX10_share_67 : decode cX10_share 67 = .ok (.if_icmp .ge 64, 3) := by decide +kernel
theorem dX10_share_70 : decode cX10_share 70 = .ok (.iload 5, 2) := by decide +kernel
theorem dX10_share_72 : decode cX10_share 72 = .ok (.iload_n 1, 1) := by decide +kernel
theorem dX10_share_73 : decode cX10_share 73 = .ok (.invokestatic 258, 3) := by decide +kernel
theorem dX10_share_76 : decode cX10_share 76 = .ok (.ifCond .ne 49, 3) := by decide +kernel
theorem dX10_share_79 : decode cX10_share 79 = .ok (.iload 4, 2) := by decide +kernel
theorem dX10_share_81 : decode cX10_share 81 = .ok (.iload 5, 2) := by decide +kernel
theorem dX10_share_83 : decode cX10_share 83 = .ok (.invokestatic 337, 3) := by decide +kernel
theorem dX10_share_86 : decode cX10_share 86 = .ok (.invokestatic 405, 3) := by decide +kernel
theorem dX10_share_89 : decode cX10_share 89 = .ok (.iload_n 3, 1) := by decide +kernel
theorem dX10_share_90 : decode cX10_share 90 = .ok (.iconst 1, 1) := by decide +kernel
theorem dX10_share_91 : decode cX10_share 91 = .ok (.isub, 1) := by decide +kernel
theorem dX10_share_92 : decode cX10_share 92 = .ok (.iload 5, 2) := by decide +kernel
theorem dX10_share_94 : decode cX10_share 94 = .ok (.invokestatic 337, 3) := by decide +kernel
theorem dX10_share_97 : decode cX10_share 97 = .ok (.isub, 1) := by decide +kernel
theorem dX10_share_98 : decode cX10_share 98 = .ok (.invokestatic 405, 3) := by decide +kernel
theorem dX10_share_101 : decode cX10_share 101 = .ok (.imul, 1) := by decide +kernel
theorem dX10_share_102 : decode cX10_share 102 = .ok (.aload_n 0, 1) := by decide +kernel
theorem dX10_share_103 : decode cX10_share 103 = .ok (.getfield 79, 3) := by decide +kernel
theorem dX10_share_106 : decode cX10_share 106 = .ok (.iload 5, 2) := by decide +kernel
theorem dX10_share_108 : decode cX10_share 108 = .ok (.iconst 1, 1) := by decide +kernel
theorem dX10_share_109 : decode cX10_share 109 = .ok (.iload_n 1, 1) := by decide +kernel
theorem dX10_share_110 : decode cX10_share 110 = .ok (.ishl, 1) := by decide +kernel
theorem dX10_share_111 : decode cX10_share 111 = .ok (.ior, 1) := by decide +kernel
theorem dX10_share_112 : decode cX10_share 112 = .ok (.iaload, 1) := by decide +kernel
theorem dX10_share_113 : decode cX10_share 113 = .ok (.aload_n 0, 1) := by decide +kernel
theorem dX10_share_114 : decode cX10_share 114 = .ok (.getfield 79, 3) := by decide +kernel
theorem dX10_share_117 : decode cX10_share 117 = .ok (.iload 5, 2) := by decide +kernel
theorem dX10_share_119 : decode cX10_share 119 = .ok (.iaload, 1) := by decide +kernel
theorem dX10_share_120 : decode cX10_share 120 = .ok (.isub, 1) := by decide +kernel
theorem dX10_share_121 : decode cX10_share 121 = .ok (.imul, 1) := by decide +kernel
theorem dX10_share_122 : decode cX10_share 122 = .ok (.iadd, 1) := by decide +kernel
theorem dX10_share_123 : decode cX10_share 123 = .ok (.istore 4, 2) := by decide +kernel
theorem dX10_share_125 : decode cX10_share 125 = .ok (.iinc 5 1, 3) := by decide +kernel
theorem dX10_share_128 : decode cX10_share 128 = .ok (.goto (-66), 3) := by decide +kernel
theorem dX10_share_131 : decode cX10_share 131 = .ok (.iload 4, 2) := by decide +kernel
theorem dX10_share_133 : decode cX10_share 133 = .ok (.i2l, 1) := by decide +kernel
theorem dX10_share_134 : decode cX10_share 134 = .ok (.iload_n 3, 1) := by decide +kernel
theorem dX10_share_135 : decode cX10_share 135 = .ok (.invokestatic 405, 3) := by decide +kernel
theorem dX10_share_138 : decode cX10_share 138 = .ok (.i2l, 1) := by decide +kernel
theorem dX10_share_139 : decode cX10_share 139 = .ok (.iload_n 2, 1) := by decide +kernel
theorem dX10_share_140 : decode cX10_share 140 = .ok (.invokestatic 408, 3) := by decide +kernel
theorem dX10_share_143 : decode cX10_share 143 = .ok (.l2i, 1) := by decide +kernel
theorem dX10_share_144 : decode cX10_share 144 = .ok (.ireturn, 1) := by decide +kernel
theorem dX10_getsBy_0 : decode cX10_getsBy 0 = .ok (.aload_n 0, 1) := by decide +kernel
theorem dX10_getsBy_1 : decode cX10_getsBy 1 = .ok (.invokevirtual 285, 3) := by decide +kernel
theorem dX10_getsBy_4 : decode cX10_getsBy 4 = .ok (.pop, 1) := by decide +kernel
theorem dX10_getsBy_5 : decode cX10_getsBy 5 = .ok (.aload_n 0, 1) := by decide +kernel
theorem dX10_getsBy_6 : decode cX10_getsBy 6 = .ok (.iload_n 3, 1) := by decide +kernel
theorem dX10_getsBy_7 : decode cX10_getsBy 7 = .ok (.iload_n 1, 1) := by decide +kernel
theorem dX10_getsBy_8 : decode cX10_getsBy 8 = .ok (.ishl, 1) := by decide +kernel
theorem dX10_getsBy_9 : decode cX10_getsBy 9 = .ok (.iload 4, 2) := by decide +kernel
theorem dX10_getsBy_11 : decode cX10_getsBy 11 = .ok (.iload_n 2, 1) := by decide +kernel
theorem dX10_getsBy_12 : decode cX10_getsBy 12 = .ok (.ishl, 1) := by decide +kernel
theorem dX10_getsBy_13 : decode cX10_getsBy 13 = .ok (.ior, 1) := by decide +kernel
theorem dX10_getsBy_14 : decode cX10_getsBy 14 = .ok (.putfield 249, 3) := by decide +kernel
theorem dX10_getsBy_17 : decode cX10_getsBy 17 = .ok (.iload 5, 2) := by decide +kernel
theorem dX10_getsBy_19 : decode cX10_getsBy 19 = .ok (.ifCond .ne 7, 3) := by decide +kernel
theorem dX10_getsBy_22 : decode cX10_getsBy 22 = .ok (.iload_n 1, 1) := by decide +kernel
theorem dX10_getsBy_23 : decode cX10_getsBy 23 = .ok (.goto 4, 3) := by decide +kernel
theorem dX10_getsBy_26 : decode cX10_getsBy 26 = .ok (.iload_n 2, 1) := by decide +kernel
theorem dX10_getsBy_27 : decode cX10_getsBy 27 = .ok (.istore 6, 2) := by decide +kernel
theorem dX10_getsBy_29 : decode cX10_getsBy 29 = .ok (.iconst 3, 1) := by decide +kernel
theorem dX10_getsBy_30 : decode cX10_getsBy 30 = .ok (.aload_n 0, 1) := by decide +kernel
theorem dX10_getsBy_31 : decode cX10_getsBy 31 = .ok (.iload 6, 2) := by decide +kernel
theorem dX10_getsBy_33 : decode cX10_getsBy 33 = .ok (.iconst 0, 1) := by decide +kernel
theorem dX10_getsBy_34 : decode cX10_getsBy 34 = .ok (.invokevirtual 340, 3) := by decide +kernel
theorem dX10_getsBy_37 : decode cX10_getsBy 37 = .ok (.aload_n 0, 1) := by decide +kernel
theorem dX10_getsBy_38 : decode cX10_getsBy 38 = .ok (.iload 6, 2) := by decide +kernel
theorem dX10_getsBy_40 : decode cX10_getsBy 40 = .ok (.iconst 1, 1) := by decide +kernel
theorem dX10_getsBy_41 : decode cX10_getsBy 41 = .ok (.invokevirtual 340, 3) := by decide +kernel
theorem dX10_getsBy_44 : decode cX10_getsBy 44 = .ok (.iadd, 1) := by decide +kernel
theorem dX10_getsBy_45 : decode cX10_getsBy 45 = .ok (.imul, 1) := by decide +kernel
theorem dX10_getsBy_46 : decode cX10_getsBy 46 = .ok (.iconst 4, 1) := by decide +kernel
theorem dX10_getsBy_47 : decode cX10_getsBy 47 = .ok (.iload 5, 2) := by decide +kernel
theorem dX10_getsBy_49 : decode cX10_getsBy 49 = .ok (.ifCond .ne 7, 3) := by decide +kernel
theorem dX10_getsBy_52 : decode cX10_getsBy 52 = .ok (.iload_n 3, 1) := by decide +kernel
theorem dX10_getsBy_53 : decode cX10_getsBy 53 = .ok (.goto 5, 3) := by decide +kernel
theorem dX10_getsBy_56 : decode cX10_getsBy 56 = .ok (.iload 4, 2) := by decide +kernel
theorem dX10_getsBy_58 : decode cX10_getsBy 58 = .ok (.imul, 1) := by decide +kernel
theorem dX10_getsBy_59 : decode cX10_getsBy 59 = .ok (.isub, 1) := by decide +kernel
theorem dX10_getsBy_60 : decode cX10_getsBy 60 = .ok (.ireturn, 1) := by decide +kernel
theorem dX10_rests_0 : decode cX10_rests 0 = .ok (.aload_n 0, 1) := by decide +kernel
theorem dX10_rests_1 : decode cX10_rests 1 = .ok (.iload_n 1, 1) := by decide +kernel
theorem dX10_rests_2 : decode cX10_rests 2 = .ok (.iload_n 2, 1) := by decide +kernel
theorem dX10_rests_3 : decode cX10_rests 3 = .ok (.invokevirtual 316, 3) := by decide +kernel
theorem dX10_rests_6 : decode cX10_rests 6 = .ok (.ifCond .ne 6, 3) := by decide +kernel
theorem dX10_rests_9 : decode cX10_rests 9 = .ok (.bipush (-2), 2) := by decide +kernel
theorem dX10_rests_11 : decode cX10_rests 11 = .ok (.ireturn, 1) := by decide +kernel
theorem dX10_rests_12 : decode cX10_rests 12 = .ok (.iconst 0, 1) := by decide +kernel
theorem dX10_rests_13 : decode cX10_rests 13 = .ok (.istore_n 3, 1) := by decide +kernel
theorem dX10_rests_14 : decode cX10_rests 14 = .ok (.iconst 0, 1) := by decide +kernel
theorem dX10_rests_15 : decode cX10_rests 15 = .ok (.istore 4, 2) := by decide +kernel
theorem dX10_rests_17 : decode cX10_rests 17 = .ok (.iload 4, 2) := by decide +kernel
theorem dX10_rests_19 : decode cX10_rests 19 = .ok (.iconst 4, 1) := by decide +kernel
theorem dX10_rests_20 : decode cX10_rests 20 = .ok (.if_icmp .ge 98, 3) := by decide +kernel
theorem dX10_rests_23 : decode cX10_rests 23 = .ok (.iload 4, 2) := by decide +kernel
theorem dX10_rests_25 : decode cX10_rests 25 = .ok (.iconst 1, 1) := by decide +kernel
theorem dX10_rests_26 : decode cX10_rests 26 = .ok (.iand, 1) := by decide +kernel
theorem dX10_rests_27 : decode cX10_rests 27 = .ok (.istore 5, 2) := by decide +kernel
theorem dX10_rests_29 : decode cX10_rests 29 = .ok (.iload 4, 2) := by decide +kernel
theorem dX10_rests_31 : decode cX10_rests 31 = .ok (.iconst 1, 1) := by decide +kernel
theorem dX10_rests_32 : decode cX10_rests 32 = .ok (.ishr, 1) := by decide +kernel
theorem dX10_rests_33 : decode cX10_rests 33 = .ok (.istore 6, 2) := by decide +kernel
theorem dX10_rests_35 : decode cX10_rests 35 = .ok (.aload_n 0, 1) := by decide +kernel
theorem dX10_rests_36 : decode cX10_rests 36 = .ok (.iload_n 1, 1) := by decide +kernel
theorem dX10_rests_37 : decode cX10_rests 37 = .ok (.iload_n 2, 1) := by decide +kernel
theorem dX10_rests_38 : decode cX10_rests 38 = .ok (.iload 5, 2) := by decide +kernel
theorem dX10_rests_40 : decode cX10_rests 40 = .ok (.iload 6, 2) := by decide +kernel
theorem dX10_rests_42 : decode cX10_rests 42 = .ok (.iconst 0, 1) := by decide +kernel
theorem dX10_rests_43 : decode cX10_rests 43 = .ok (.invokevirtual 412, 3) := by decide +kernel
theorem dX10_rests_46 : decode cX10_rests 46 = .ok (.aload_n 0, 1) := by decide +kernel
theorem dX10_rests_47 : decode cX10_rests 47 = .ok (.iload_n 1, 1) := by decide +kernel
theorem dX10_rests_48 : decode cX10_rests 48 = .ok (.iload_n 2, 1) := by decide +kernel
theorem dX10_rests_49 : decode cX10_rests 49 = .ok (.iconst 1, 1) := by decide +kernel
theorem dX10_rests_50 : decode cX10_rests 50 = .ok (.iload 5, 2) := by decide +kernel
theorem dX10_rests_52 : decode cX10_rests 52 = .ok (.isub, 1) := by decide +kernel
theorem dX10_rests_53 : decode cX10_rests 53 = .ok (.iload 6, 2) := by decide +kernel
theorem dX10_rests_55 : decode cX10_rests 55 = .ok (.iconst 0, 1) := by decide +kernel
theorem dX10_rests_56 : decode cX10_rests 56 = .ok (.invokevirtual 412, 3) := by decide +kernel
theorem dX10_rests_59 : decode cX10_rests 59 = .ok (.if_icmp .lt 34, 3) := by decide +kernel
theorem dX10_rests_62 : decode cX10_rests 62 = .ok (.aload_n 0, 1) := by decide +kernel
theorem dX10_rests_63 : decode cX10_rests 63 = .ok (.iload_n 1, 1) := by decide +kernel
theorem dX10_rests_64 : decode cX10_rests 64 = .ok (.iload_n 2, 1) := by decide +kernel
theorem dX10_rests_65 : decode cX10_rests 65 = .ok (.iload 5, 2) := by decide +kernel
theorem dX10_rests_67 : decode cX10_rests 67 = .ok (.iload 6, 2) := by decide +kernel
theorem dX10_rests_69 : decode cX10_rests 69 = .ok (.iconst 1, 1) := by decide +kernel
theorem dX10_rests_70 : decode cX10_rests 70 = .ok (.invokevirtual 412, 3) := by decide +kernel
theorem dX10_rests_73 : decode cX10_rests 73 = .ok (.aload_n 0, 1) := by decide +kernel
theorem dX10_rests_74 : decode cX10_rests 74 = .ok (.iload_n 1, 1) := by decide +kernel
theorem dX10_rests_75 : decode cX10_rests 75 = .ok (.iload_n 2, 1) := by decide +kernel
theorem dX10_rests_76 : decode cX10_rests 76 = .ok (.iload 5, 2) := by decide +kernel
theorem dX10_rests_78 : decode cX10_rests 78 = .ok (.iconst 1, 1) := by decide +kernel
theorem dX10_rests_79 : decode cX10_rests 79 = .ok (.iload 6, 2) := by decide +kernel
theorem dX10_rests_81 : decode cX10_rests 81 = .ok (.isub, 1) := by decide +kernel
theorem dX10_rests_82 : decode cX10_rests 82 = .ok (.iconst 1, 1) := by decide +kernel
theorem dX10_rests_83 : decode cX10_rests 83 = .ok (.invokevirtual 412, 3) := by decide +kernel
theorem dX10_rests_86 : decode cX10_rests 86 = .ok (.if_icmp .lt 7, 3) := by decide +kernel
theorem dX10_rests_89 : decode cX10_rests 89 = .ok (.iconst 1, 1) := by decide +kernel
theorem dX10_rests_90 : decode cX10_rests 90 = .ok (.goto 4, 3) := by decide +kernel
theorem dX10_rests_93 : decode cX10_rests 93 = .ok (.iconst 0, 1) := by decide +kernel
theorem dX10_rests_94 : decode cX10_rests 94 = .ok (.istore 7, 2) := by decide +kernel
theorem dX10_rests_96 : decode cX10_rests 96 = .ok (.iload_n 3, 1) := by decide +kernel
theorem dX10_rests_97 : decode cX10_rests 97 = .ok (.iload 7, 2) := by decide +kernel
theorem dX10_rests_99 : decode cX10_rests 99 = .ok (.ifCond .eq 10, 3) := by decide +kernel
theorem dX10_rests_102 : decode cX10_rests 102 = .ok (.iconst 1, 1) := by decide +kernel
theorem dX10_rests_103 : decode cX10_rests 103 = .ok (.iload 4, 2) := by decide +kernel
theorem dX10_rests_105 : decode cX10_rests 105 = .ok (.ishl, 1) := by decide +kernel
theorem dX10_rests_106 : decode cX10_rests 106 = .ok (.goto 4, 3) := by decide +kernel
theorem dX10_rests_109 : decode cX10_rests 109 = .ok (.iconst 0, 1) := by decide +kernel
theorem dX10_rests_110 : decode cX10_rests 110 = .ok (.ior, 1) := by decide +kernel
theorem dX10_rests_111 : decode cX10_rests 111 = .ok (.istore_n 3, 1) := by decide +kernel
theorem dX10_rests_112 : decode cX10_rests 112 = .ok (.iinc 4 1, 3) := by decide +kernel
theorem dX10_rests_115 : decode cX10_rests 115 = .ok (.goto (-98), 3) := by decide +kernel
theorem dX10_rests_118 : decode cX10_rests 118 = .ok (.iload_n 3, 1) := by decide +kernel
theorem dX10_rests_119 : decode cX10_rests 119 = .ok (.ireturn, 1) := by decide +kernel
theorem dX10_gets_0 : decode cX10_gets 0 = .ok (.aload_n 0, 1) := by decide +kernel
theorem dX10_gets_1 : decode cX10_gets 1 = .ok (.iload_n 1, 1) := by decide +kernel
theorem dX10_gets_2 : decode cX10_gets 2 = .ok (.iload_n 2, 1) := by decide +kernel
theorem dX10_gets_3 : decode cX10_gets 3 = .ok (.invokevirtual 316, 3) := by decide +kernel
theorem dX10_gets_6 : decode cX10_gets 6 = .ok (.ifCond .eq 37, 3) := by decide +kernel
theorem dX10_gets_9 : decode cX10_gets 9 = .ok (.iload_n 3, 1) := by decide +kernel
theorem dX10_gets_10 : decode cX10_gets 10 = .ok (.i2l, 1) := by decide +kernel
theorem dX10_gets_11 : decode cX10_gets 11 = .ok (.lconst 0, 1) := by decide +kernel
theorem dX10_gets_12 : decode cX10_gets 12 = .ok (.lconst 1, 1) := by decide +kernel
theorem dX10_gets_13 : decode cX10_gets 13 = .ok (.invokestatic 100, 3) := by decide +kernel
theorem dX10_gets_16 : decode cX10_gets 16 = .ok (.ifCond .eq 27, 3) := by decide +kernel
theorem dX10_gets_19 : decode cX10_gets 19 = .ok (.iload 4, 2) := by decide +kernel
theorem dX10_gets_21 : decode cX10_gets 21 = .ok (.i2l, 1) := by decide +kernel
theorem dX10_gets_22 : decode cX10_gets 22 = .ok (.lconst 0, 1) := by decide +kernel
theorem dX10_gets_23 : decode cX10_gets 23 = .ok (.lconst 1, 1) := by decide +kernel
theorem dX10_gets_24 : decode cX10_gets 24 = .ok (.invokestatic 100, 3) := by decide +kernel
theorem dX10_gets_27 : decode cX10_gets 27 = .ok (.ifCond .eq 16, 3) := by decide +kernel
theorem dX10_gets_30 : decode cX10_gets 30 = .ok (.aload_n 0, 1) := by decide +kernel
theorem dX10_gets_31 : decode cX10_gets 31 = .ok (.iload_n 1, 1) := by decide +kernel
theorem dX10_gets_32 : decode cX10_gets 32 = .ok (.iload_n 2, 1) := by decide +kernel
theorem dX10_gets_33 : decode cX10_gets 33 = .ok (.iload_n 3, 1) := by decide +kernel
theorem dX10_gets_34 : decode cX10_gets 34 = .ok (.iload 4, 2) := by decide +kernel
theorem dX10_gets_36 : decode cX10_gets 36 = .ok (.iconst 0, 1) := by decide +kernel
theorem dX10_gets_37 : decode cX10_gets 37 = .ok (.invokevirtual 412, 3) := by decide +kernel
theorem dX10_gets_40 : decode cX10_gets 40 = .ok (.goto 6, 3) := by decide +kernel
theorem dX10_gets_43 : decode cX10_gets 43 = .ok (.sipush (-1000), 3) := by decide +kernel
theorem dX10_gets_46 : decode cX10_gets 46 = .ok (.ireturn, 1) := by decide +kernel
theorem dX10_layFrosts_0 : decode cX10_layFrosts 0 = .ok (.aload_n 0, 1) := by decide +kernel
theorem dX10_layFrosts_1 : decode cX10_layFrosts 1 = .ok (.lconst 0, 1) := by decide +kernel
theorem dX10_layFrosts_2 : decode cX10_layFrosts 2 = .ok (.putfield 416, 3) := by decide +kernel
theorem dX10_layFrosts_5 : decode cX10_layFrosts 5 = .ok (.aload_n 0, 1) := by decide +kernel
theorem dX10_layFrosts_6 : decode cX10_layFrosts 6 = .ok (.lconst 0, 1) := by decide +kernel
theorem dX10_layFrosts_7 : decode cX10_layFrosts 7 = .ok (.putfield 420, 3) := by decide +kernel
theorem dX10_layFrosts_10 : decode cX10_layFrosts 10 = .ok (.aload_n 0, 1) := by decide +kernel
theorem dX10_layFrosts_11 : decode cX10_layFrosts 11 = .ok (.lconst 0, 1) := by decide +kernel
theorem dX10_layFrosts_12 : decode cX10_layFrosts 12 = .ok (.putfield 423, 3) := by decide +kernel
theorem dX10_layFrosts_15 : decode cX10_layFrosts 15 = .ok (.aload_n 0, 1) := by decide +kernel
theorem dX10_layFrosts_16 : decode cX10_layFrosts 16 = .ok (.invokevirtual 276, 3) := by decide +kernel
theorem dX10_layFrosts_19 : decode cX10_layFrosts 19 = .ok (.aload_n 0, 1) := by decide +kernel
theorem dX10_layFrosts_20 : decode cX10_layFrosts 20 = .ok (.getfield 252, 3) := by decide +kernel
theorem dX10_layFrosts_23 : decode cX10_layFrosts 23 = .ok (.iconst 2, 1) := by decide +kernel
theorem dX10_layFrosts_24 : decode cX10_layFrosts 24 = .ok (.iload_n 3, 1) := by decide +kernel
theorem dX10_layFrosts_25 : decode cX10_layFrosts 25 = .ok (.ishl, 1) := by decide +kernel
theorem dX10_layFrosts_26 : decode cX10_layFrosts 26 = .ok (.iconst 1, 1) := by decide +kernel
theorem dX10_layFrosts_27 : decode cX10_layFrosts 27 = .ok (.isub, 1) := by decide +kernel
theorem dX10_layFrosts_28 : decode cX10_layFrosts 28 = .ok (.iconst (-1), 1) := by decide +kernel
theorem dX10_layFrosts_29 : decode cX10_layFrosts 29 = .ok (.ixor, 1) := by decide +kernel
theorem dX10_layFrosts_30 : decode cX10_layFrosts 30 = .ok (.iand, 1) := by decide +kernel
theorem dX10_layFrosts_31 : decode cX10_layFrosts 31 = .ok (.istore 4, 2) := by decide +kernel
theorem dX10_layFrosts_33 : decode cX10_layFrosts 33 = .ok (.iconst 0, 1) := by decide +kernel
theorem dX10_layFrosts_34 : decode cX10_layFrosts 34 = .ok (.istore 5, 2) := by decide +kernel
theorem dX10_layFrosts_36 : decode cX10_layFrosts 36 = .ok (.iload 5, 2) := by decide +kernel
theorem dX10_layFrosts_38 : decode cX10_layFrosts 38 = .ok (.iconst 2, 1) := by decide +kernel
theorem dX10_layFrosts_39 : decode cX10_layFrosts 39 = .ok (.iload_n 3, 1) := by decide +kernel
theorem dX10_layFrosts_40 : decode cX10_layFrosts 40 = .ok (.ishl, 1) := by decide +kernel
theorem dX10_layFrosts_41 : decode cX10_layFrosts 41 = .ok (.if_icmp .ge 141, 3) := by decide +kernel
theorem dX10_layFrosts_44 : decode cX10_layFrosts 44 = .ok (.lconst 1, 1) := by decide +kernel
theorem dX10_layFrosts_45 : decode cX10_layFrosts 45 = .ok (.lstore 6, 2) := by decide +kernel
theorem dX10_layFrosts_47 : decode cX10_layFrosts 47 = .ok (.iconst 0, 1) := by decide +kernel
theorem dX10_layFrosts_48 : decode cX10_layFrosts 48 = .ok (.istore 8, 2) := by decide +kernel
theorem dX10_layFrosts_50 : decode cX10_layFrosts 50 = .ok (.iload 8, 2) := by decide +kernel
theorem dX10_layFrosts_52 : decode cX10_layFrosts 52 = .ok (.iload_n 3, 1) := by decide +kernel
theorem dX10_layFrosts_53 : decode cX10_layFrosts 53 = .ok (.if_icmp .gt 45, 3) := by decide +kernel
theorem dX10_layFrosts_56 : decode cX10_layFrosts 56 = .ok (.lload 6, 2) := by decide +kernel
theorem dX10_layFrosts_58 : decode cX10_layFrosts 58 = .ok (.iload 5, 2) := by decide +kernel
theorem dX10_layFrosts_60 : decode cX10_layFrosts 60 = .ok (.iload 8, 2) := by decide +kernel
theorem dX10_layFrosts_62 : decode cX10_layFrosts 62 = .ok (.invokestatic 258, 3) := by decide +kernel
theorem dX10_layFrosts_65 : decode cX10_layFrosts 65 = .ok (.iconst 1, 1) := by decide +kernel
theorem dX10_layFrosts_66 : decode cX10_layFrosts 66 = .ok (.if_icmp .ne 13, 3) := by decide +kernel
theorem dX10_layFrosts_69 : decode cX10_layFrosts 69 = .ok (.aload_n 0, 1) := by decide +kernel
theorem dX10_layFrosts_70 : decode cX10_layFrosts 70 = .ok (.getfield 9, 3) := by decide +kernel
theorem dX10_layFrosts_73 : decode cX10_layFrosts 73 = .ok (.iconst 2, 1) := by decide +kernel
theorem dX10_layFrosts_74 : decode cX10_layFrosts 74 = .ok (.iaload, 1) := by decide +kernel
theorem dX10_layFrosts_75 : decode cX10_layFrosts 75 = .ok (.i2l, 1) := by decide +kernel
theorem dX10_layFrosts_76 : decode cX10_layFrosts 76 = .ok (.goto 13, 3) := by decide +kernel
theorem dX10_layFrosts_79 : decode cX10_layFrosts 79 = .ok (.bipush 10, 2) := by decide +kernel
theorem dX10_layFrosts_81 : decode cX10_layFrosts 81 = .ok (.aload_n 0, 1) := by decide +kernel
theorem dX10_layFrosts_82 : decode cX10_layFrosts 82 = .ok (.getfield 9, 3) := by decide +kernel
theorem dX10_layFrosts_85 : decode cX10_layFrosts 85 = .ok (.iconst 2, 1) := by decide +kernel
theorem dX10_layFrosts_86 : decode cX10_layFrosts 86 = .ok (.iaload, 1) := by decide +kernel
theorem dX10_layFrosts_87 : decode cX10_layFrosts 87 = .ok (.isub, 1) := by decide +kernel
theorem dX10_layFrosts_88 : decode cX10_layFrosts 88 = .ok (.i2l, 1) := by decide +kernel
theorem dX10_layFrosts_89 : decode cX10_layFrosts 89 = .ok (.lmul, 1) := by decide +kernel
theorem dX10_layFrosts_90 : decode cX10_layFrosts 90 = .ok (.lstore 6, 2) := by decide +kernel
theorem dX10_layFrosts_92 : decode cX10_layFrosts 92 = .ok (.iinc 8 1, 3) := by decide +kernel
theorem dX10_layFrosts_95 : decode cX10_layFrosts 95 = .ok (.goto (-45), 3) := by decide +kernel
theorem dX10_layFrosts_98 : decode cX10_layFrosts 98 = .ok (.lload 6, 2) := by decide +kernel
theorem dX10_layFrosts_100 : decode cX10_layFrosts 100 = .ok (.lconst 0, 1) := by decide +kernel
theorem dX10_layFrosts_101 : decode cX10_layFrosts 101 = .ok (.lcmp, 1) := by decide +kernel
theorem dX10_layFrosts_102 : decode cX10_layFrosts 102 = .ok (.ifCond .ne 6, 3) := by decide +kernel
theorem dX10_layFrosts_105 : decode cX10_layFrosts 105 = .ok (.goto 71, 3) := by decide +kernel
theorem dX10_layFrosts_108 : decode cX10_layFrosts 108 = .ok (.aload_n 0, 1) := by decide +kernel
theorem dX10_layFrosts_109 : decode cX10_layFrosts 109 = .ok (.iload 4, 2) := by decide +kernel
theorem dX10_layFrosts_111 : decode cX10_layFrosts 111 = .ok (.iload 5, 2) := by decide +kernel
theorem dX10_layFrosts_113 : decode cX10_layFrosts 113 = .ok (.ior, 1) := by decide +kernel
theorem dX10_layFrosts_114 : decode cX10_layFrosts 114 = .ok (.putfield 252, 3) := by decide +kernel
theorem dX10_layFrosts_117 : decode cX10_layFrosts 117 = .ok (.aload_n 0, 1) := by decide +kernel
theorem dX10_layFrosts_118 : decode cX10_layFrosts 118 = .ok (.invokevirtual 279, 3) := by decide +kernel
theorem dX10_layFrosts_121 : decode cX10_layFrosts 121 = .ok (.aload_n 0, 1) := by decide +kernel
theorem dX10_layFrosts_122 : decode cX10_layFrosts 122 = .ok (.dup, 1) := by decide +kernel
theorem dX10_layFrosts_123 : decode cX10_layFrosts 123 = .ok (.getfield 416, 3) := by decide +kernel
theorem dX10_layFrosts_126 : decode cX10_layFrosts 126 = .ok (.lload 6, 2) := by decide +kernel
theorem dX10_layFrosts_128 : decode cX10_layFrosts 128 = .ok (.ladd, 1) := by decide +kernel
theorem dX10_layFrosts_129 : decode cX10_layFrosts 129 = .ok (.putfield 416, 3) := by decide +kernel
theorem dX10_layFrosts_132 : decode cX10_layFrosts 132 = .ok (.aload_n 0, 1) := by decide +kernel
theorem dX10_layFrosts_133 : decode cX10_layFrosts 133 = .ok (.dup, 1) := by decide +kernel
theorem dX10_layFrosts_134 : decode cX10_layFrosts 134 = .ok (.getfield 420, 3) := by decide +kernel
theorem dX10_layFrosts_137 : decode cX10_layFrosts 137 = .ok (.aload_n 0, 1) := by decide +kernel
theorem dX10_layFrosts_138 : decode cX10_layFrosts 138 = .ok (.iload_n 1, 1) := by decide +kernel
theorem dX10_layFrosts_139 : decode cX10_layFrosts 139 = .ok (.iload_n 2, 1) := by decide +kernel
theorem dX10_layFrosts_140 : decode cX10_layFrosts 140 = .ok (.iload_n 3, 1) := by decide +kernel
theorem dX10_layFrosts_141 : decode cX10_layFrosts 141 = .ok (.invokevirtual 307, 3) := by decide +kernel
theorem dX10_layFrosts_144 : decode cX10_layFrosts 144 = .ok (.ifCond .eq 8, 3) := by decide +kernel
theorem dX10_layFrosts_147 : decode cX10_layFrosts 147 = .ok (.lload 6, 2) := by decide +kernel
theorem dX10_layFrosts_149 : decode cX10_layFrosts 149 = .ok (.goto 4, 3) := by decide +kernel
theorem dX10_layFrosts_152 : decode cX10_layFrosts 152 = .ok (.lconst 0, 1) := by decide +kernel
theorem dX10_layFrosts_153 : decode cX10_layFrosts 153 = .ok (.ladd, 1) := by decide +kernel
theorem dX10_layFrosts_154 : decode cX10_layFrosts 154 = .ok (.putfield 420, 3) := by decide +kernel
theorem dX10_layFrosts_157 : decode cX10_layFrosts 157 = .ok (.aload_n 0, 1) := by decide +kernel
theorem dX10_layFrosts_158 : decode cX10_layFrosts 158 = .ok (.dup, 1) := by decide +kernel
theorem dX10_layFrosts_159 : decode cX10_layFrosts 159 = .ok (.getfield 423, 3) := by decide +kernel
theorem dX10_layFrosts_162 : decode cX10_layFrosts 162 = .ok (.lload 6, 2) := by decide +kernel
theorem dX10_layFrosts_164 : decode cX10_layFrosts 164 = .ok (.aload_n 0, 1) := by decide +kernel
theorem dX10_layFrosts_165 : decode cX10_layFrosts 165 = .ok (.iload_n 1, 1) := by decide +kernel
theorem dX10_layFrosts_166 : decode cX10_layFrosts 166 = .ok (.iload_n 3, 1) := by decide +kernel
theorem dX10_layFrosts_167 : decode cX10_layFrosts 167 = .ok (.invokevirtual 294, 3) := by decide +kernel
theorem dX10_layFrosts_170 : decode cX10_layFrosts 170 = .ok (.i2l, 1) := by decide +kernel
theorem dX10_layFrosts_171 : decode cX10_layFrosts 171 = .ok (.lmul, 1) := by decide +kernel
theorem dX10_layFrosts_172 : decode cX10_layFrosts 172 = .ok (.ladd, 1) := by decide +kernel
theorem dX10_layFrosts_173 : decode cX10_layFrosts 173 = .ok (.putfield 423, 3) := by decide +kernel
theorem dX10_layFrosts_176 : decode cX10_layFrosts 176 = .ok (.iinc 5 1, 3) := by decide +kernel
theorem dX10_layFrosts_179 : decode cX10_layFrosts 179 = .ok (.goto (-143), 3) := by decide +kernel
theorem dX10_layFrosts_182 : decode cX10_layFrosts 182 = .ok (.return_, 1) := by decide +kernel
theorem dX10_isFrosts_0 : decode cX10_isFrosts 0 = .ok (.aload_n 0, 1) := by decide +kernel
theorem dX10_isFrosts_1 : decode cX10_isFrosts 1 = .ok (.iload_n 1, 1) := by decide +kernel
theorem dX10_isFrosts_2 : decode cX10_isFrosts 2 = .ok (.i2l, 1) := by decide +kernel
theorem dX10_isFrosts_3 : decode cX10_isFrosts 3 = .ok (.invokevirtual 288, 3) := by decide +kernel
theorem dX10_isFrosts_6 : decode cX10_isFrosts 6 = .ok (.ifCond .eq 29, 3) := by decide +kernel
theorem dX10_isFrosts_9 : decode cX10_isFrosts 9 = .ok (.iload_n 1, 1) := by decide +kernel
theorem dX10_isFrosts_10 : decode cX10_isFrosts 10 = .ok (.i2l, 1) := by decide +kernel
theorem dX10_isFrosts_11 : decode cX10_isFrosts 11 = .ok (.lconst 0, 1) := by decide +kernel
theorem dX10_isFrosts_12 : decode cX10_isFrosts 12 = .ok (.ldc2_w 426, 3) := by decide +kernel
theorem dX10_isFrosts_15 : decode cX10_isFrosts 15 = .ok (.invokestatic 100, 3) := by decide +kernel
theorem dX10_isFrosts_18 : decode cX10_isFrosts 18 = .ok (.ifCond .eq 17, 3) := by decide +kernel
theorem dX10_isFrosts_21 : decode cX10_isFrosts 21 = .ok (.iload_n 2, 1) := by decide +kernel
theorem dX10_isFrosts_22 : decode cX10_isFrosts 22 = .ok (.i2l, 1) := by decide +kernel
theorem dX10_isFrosts_23 : decode cX10_isFrosts 23 = .ok (.lconst 0, 1) := by decide +kernel
theorem dX10_isFrosts_24 : decode cX10_isFrosts 24 = .ok (.lconst 1, 1) := by decide +kernel
theorem dX10_isFrosts_25 : decode cX10_isFrosts 25 = .ok (.invokestatic 100, 3) := by decide +kernel
theorem dX10_isFrosts_28 : decode cX10_isFrosts 28 = .ok (.ifCond .eq 7, 3) := by decide +kernel
theorem dX10_isFrosts_31 : decode cX10_isFrosts 31 = .ok (.iconst 1, 1) := by decide +kernel
theorem dX10_isFrosts_32 : decode cX10_isFrosts 32 = .ok (.goto 4, 3) := by decide +kernel
theorem dX10_isFrosts_35 : decode cX10_isFrosts 35 = .ok (.iconst 0, 1) := by decide +kernel
theorem dX10_isFrosts_36 : decode cX10_isFrosts 36 = .ok (.ireturn, 1) := by decide +kernel
theorem dX10_chance_0 : decode cX10_chance 0 = .ok (.aload_n 0, 1) := by decide +kernel
theorem dX10_chance_1 : decode cX10_chance 1 = .ok (.iload_n 1, 1) := by decide +kernel
theorem dX10_chance_2 : decode cX10_chance 2 = .ok (.iload_n 2, 1) := by decide +kernel
theorem dX10_chance_3 : decode cX10_chance 3 = .ok (.invokevirtual 316, 3) := by decide +kernel
theorem dX10_chance_6 : decode cX10_chance 6 = .ok (.ifCond .eq 13, 3) := by decide +kernel
theorem dX10_chance_9 : decode cX10_chance 9 = .ok (.aload_n 0, 1) := by decide +kernel
theorem dX10_chance_10 : decode cX10_chance 10 = .ok (.iload_n 3, 1) := by decide +kernel
theorem dX10_chance_11 : decode cX10_chance 11 = .ok (.iload 4, 2) := by decide +kernel
theorem dX10_chance_13 : decode cX10_chance 13 = .ok (.invokevirtual 428, 3) := by decide +kernel
theorem dX10_chance_16 : decode cX10_chance 16 = .ok (.ifCond .ne 7, 3) := by decide +kernel
theorem dX10_chance_19 : decode cX10_chance 19 = .ok (.ldc2_w 431, 3) := by decide +kernel
theorem dX10_chance_22 : decode cX10_chance 22 = .ok (.lreturn, 1) := by decide +kernel
theorem dX10_chance_23 : decode cX10_chance 23 = .ok (.aload_n 0, 1) := by decide +kernel
theorem dX10_chance_24 : decode cX10_chance 24 = .ok (.iload_n 1, 1) := by decide +kernel
theorem dX10_chance_25 : decode cX10_chance 25 = .ok (.iload_n 2, 1) := by decide +kernel
theorem dX10_chance_26 : decode cX10_chance 26 = .ok (.iload_n 3, 1) := by decide +kernel
theorem dX10_chance_27 : decode cX10_chance 27 = .ok (.invokevirtual 433, 3) := by decide +kernel
theorem dX10_chance_30 : decode cX10_chance 30 = .ok (.aload_n 0, 1) := by decide +kernel
theorem dX10_chance_31 : decode cX10_chance 31 = .ok (.getfield 420, 3) := by decide +kernel
theorem dX10_chance_34 : decode cX10_chance 34 = .ok (.aload_n 0, 1) := by decide +kernel
theorem dX10_chance_35 : decode cX10_chance 35 = .ok (.getfield 416, 3) := by decide +kernel
theorem dX10_chance_38 : decode cX10_chance 38 = .ok (.iload 4, 2) := by decide +kernel
theorem dX10_chance_40 : decode cX10_chance 40 = .ok (.invokestatic 408, 3) := by decide +kernel
theorem dX10_chance_43 : decode cX10_chance 43 = .ok (.lreturn, 1) := by decide +kernel
theorem dX10_mean_0 : decode cX10_mean 0 = .ok (.aload_n 0, 1) := by decide +kernel
theorem dX10_mean_1 : decode cX10_mean 1 = .ok (.iload_n 1, 1) := by decide +kernel
theorem dX10_mean_2 : decode cX10_mean 2 = .ok (.i2l, 1) := by decide +kernel
theorem dX10_mean_3 : decode cX10_mean 3 = .ok (.invokevirtual 230, 3) := by decide +kernel
theorem dX10_mean_6 : decode cX10_mean 6 = .ok (.ifCond .eq 12, 3) := by decide +kernel
theorem dX10_mean_9 : decode cX10_mean 9 = .ok (.aload_n 0, 1) := by decide +kernel
theorem dX10_mean_10 : decode cX10_mean 10 = .ok (.iload_n 2, 1) := by decide +kernel
theorem dX10_mean_11 : decode cX10_mean 11 = .ok (.iload_n 3, 1) := by decide +kernel
theorem dX10_mean_12 : decode cX10_mean 12 = .ok (.invokevirtual 428, 3) := by decide +kernel
theorem dX10_mean_15 : decode cX10_mean 15 = .ok (.ifCond .ne 7, 3) := by decide +kernel
theorem dX10_mean_18 : decode cX10_mean 18 = .ok (.ldc2_w 431, 3) := by decide +kernel
theorem dX10_mean_21 : decode cX10_mean 21 = .ok (.lreturn, 1) := by decide +kernel
theorem dX10_mean_22 : decode cX10_mean 22 = .ok (.aload_n 0, 1) := by decide +kernel
theorem dX10_mean_23 : decode cX10_mean 23 = .ok (.iload_n 1, 1) := by decide +kernel
theorem dX10_mean_24 : decode cX10_mean 24 = .ok (.iload_n 1, 1) := by decide +kernel
theorem dX10_mean_25 : decode cX10_mean 25 = .ok (.iload_n 2, 1) := by decide +kernel
theorem dX10_mean_26 : decode cX10_mean 26 = .ok (.invokevirtual 433, 3) := by decide +kernel
theorem dX10_mean_29 : decode cX10_mean 29 = .ok (.aload_n 0, 1) := by decide +kernel
theorem dX10_mean_30 : decode cX10_mean 30 = .ok (.getfield 423, 3) := by decide +kernel
theorem dX10_mean_33 : decode cX10_mean 33 = .ok (.aload_n 0, 1) := by decide +kernel
theorem dX10_mean_34 : decode cX10_mean 34 = .ok (.getfield 416, 3) := by decide +kernel
theorem dX10_mean_37 : decode cX10_mean 37 = .ok (.iload_n 3, 1) := by decide +kernel
theorem dX10_mean_38 : decode cX10_mean 38 = .ok (.invokestatic 408, 3) := by decide +kernel
theorem dX10_mean_41 : decode cX10_mean 41 = .ok (.lreturn, 1) := by decide +kernel
theorem dX10_keepAct_0 : decode cX10_keepAct 0 = .ok (.aload_n 0, 1) := by decide +kernel
theorem dX10_keepAct_1 : decode cX10_keepAct 1 = .ok (.getfield 9, 3) := by decide +kernel
theorem dX10_keepAct_4 : decode cX10_keepAct 4 = .ok (.bipush 8, 2) := by decide +kernel
theorem dX10_keepAct_6 : decode cX10_keepAct 6 = .ok (.iaload, 1) := by decide +kernel
theorem dX10_keepAct_7 : decode cX10_keepAct 7 = .ok (.bipush 30, 2) := by decide +kernel
theorem dX10_keepAct_9 : decode cX10_keepAct 9 = .ok (.if_icmp .ne 6, 3) := by decide +kernel
theorem dX10_keepAct_12 : decode cX10_keepAct 12 = .ok (.bipush (-5), 2) := by decide +kernel
theorem dX10_keepAct_14 : decode cX10_keepAct 14 = .ok (.ireturn, 1) := by decide +kernel
theorem dX10_keepAct_15 : decode cX10_keepAct 15 = .ok (.aload_n 0, 1) := by decide +kernel
theorem dX10_keepAct_16 : decode cX10_keepAct 16 = .ok (.getfield 9, 3) := by decide +kernel
theorem dX10_keepAct_19 : decode cX10_keepAct 19 = .ok (.bipush 82, 2) := by decide +kernel
theorem dX10_keepAct_21 : decode cX10_keepAct 21 = .ok (.aload_n 0, 1) := by decide +kernel
theorem dX10_keepAct_22 : decode cX10_keepAct 22 = .ok (.getfield 9, 3) := by decide +kernel
theorem dX10_keepAct_25 : decode cX10_keepAct 25 = .ok (.bipush 8, 2) := by decide +kernel
theorem dX10_keepAct_27 : decode cX10_keepAct 27 = .ok (.iaload, 1) := by decide +kernel
theorem dX10_keepAct_28 : decode cX10_keepAct 28 = .ok (.iadd, 1) := by decide +kernel
theorem dX10_keepAct_29 : decode cX10_keepAct 29 = .ok (.iload_n 1, 1) := by decide +kernel
theorem dX10_keepAct_30 : decode cX10_keepAct 30 = .ok (.iastore, 1) := by decide +kernel
theorem dX10_keepAct_31 : decode cX10_keepAct 31 = .ok (.aload_n 0, 1) := by decide +kernel
theorem dX10_keepAct_32 : decode cX10_keepAct 32 = .ok (.getfield 9, 3) := by decide +kernel
theorem dX10_keepAct_35 : decode cX10_keepAct 35 = .ok (.bipush 8, 2) := by decide +kernel
theorem dX10_keepAct_37 : decode cX10_keepAct 37 = .ok (.dup2, 1) := by decide +kernel
theorem dX10_keepAct_38 : decode cX10_keepAct 38 = .ok (.iaload, 1) := by decide +kernel
theorem dX10_keepAct_39 : decode cX10_keepAct 39 = .ok (.iconst 1, 1) := by decide +kernel
theorem dX10_keepAct_40 : decode cX10_keepAct 40 = .ok (.iadd, 1) := by decide +kernel
theorem dX10_keepAct_41 : decode cX10_keepAct 41 = .ok (.iastore, 1) := by decide +kernel
theorem dX10_keepAct_42 : decode cX10_keepAct 42 = .ok (.aload_n 0, 1) := by decide +kernel
theorem dX10_keepAct_43 : decode cX10_keepAct 43 = .ok (.invokevirtual 285, 3) := by decide +kernel
theorem dX10_keepAct_46 : decode cX10_keepAct 46 = .ok (.pop, 1) := by decide +kernel
theorem dX10_keepAct_47 : decode cX10_keepAct 47 = .ok (.iconst 0, 1) := by decide +kernel
theorem dX10_keepAct_48 : decode cX10_keepAct 48 = .ok (.ireturn, 1) := by decide +kernel
theorem dX10_adds_0 : decode cX10_adds 0 = .ok (.aload_n 0, 1) := by decide +kernel
theorem dX10_adds_1 : decode cX10_adds 1 = .ok (.iload_n 2, 1) := by decide +kernel
theorem dX10_adds_2 : decode cX10_adds 2 = .ok (.i2l, 1) := by decide +kernel
theorem dX10_adds_3 : decode cX10_adds 3 = .ok (.invokevirtual 230, 3) := by decide +kernel
theorem dX10_adds_6 : decode cX10_adds 6 = .ok (.ifCond .eq 15, 3) := by decide +kernel
theorem dX10_adds_9 : decode cX10_adds 9 = .ok (.iload_n 1, 1) := by decide +kernel
theorem dX10_adds_10 : decode cX10_adds 10 = .ok (.i2l, 1) := by decide +kernel
theorem dX10_adds_11 : decode cX10_adds 11 = .ok (.lconst 1, 1) := by decide +kernel
theorem dX10_adds_12 : decode cX10_adds 12 = .ok (.ldc2_w 436, 3) := by decide +kernel
theorem dX10_adds_15 : decode cX10_adds 15 = .ok (.invokestatic 100, 3) := by decide +kernel
theorem dX10_adds_18 : decode cX10_adds 18 = .ok (.ifCond .ne 6, 3) := by decide +kernel
theorem dX10_adds_21 : decode cX10_adds 21 = .ok (.bipush (-2), 2) := by decide +kernel
theorem dX10_adds_23 : decode cX10_adds 23 = .ok (.ireturn, 1) := by decide +kernel
theorem dX10_adds_24 : decode cX10_adds 24 = .ok (.aload_n 0, 1) := by decide +kernel
theorem dX10_adds_25 : decode cX10_adds 25 = .ok (.bipush 100, 2) := by decide +kernel
theorem dX10_adds_27 : decode cX10_adds 27 = .ok (.iload_n 1, 1) := by decide +kernel
theorem dX10_adds_28 : decode cX10_adds 28 = .ok (.imul, 1) := by decide +kernel
theorem dX10_adds_29 : decode cX10_adds 29 = .ok (.iload_n 2, 1) := by decide +kernel
theorem dX10_adds_30 : decode cX10_adds 30 = .ok (.iadd, 1) := by decide +kernel
theorem dX10_adds_31 : decode cX10_adds 31 = .ok (.invokevirtual 438, 3) := by decide +kernel
theorem dX10_adds_34 : decode cX10_adds 34 = .ok (.ifCond .ge 6, 3) := by decide +kernel
theorem dX10_adds_37 : decode cX10_adds 37 = .ok (.bipush (-5), 2) := by decide +kernel
theorem dX10_adds_39 : decode cX10_adds 39 = .ok (.ireturn, 1) := by decide +kernel
theorem dX10_adds_40 : decode cX10_adds 40 = .ok (.iconst 0, 1) := by decide +kernel
theorem dX10_adds_41 : decode cX10_adds 41 = .ok (.istore_n 3, 1) := by decide +kernel
theorem dX10_adds_42 : decode cX10_adds 42 = .ok (.iconst 0, 1) := by decide +kernel
theorem dX10_adds_43 : decode cX10_adds 43 = .ok (.istore 4, 2) := by decide +kernel
theorem dX10_adds_45 : decode cX10_adds 45 = .ok (.iload 4, 2) := by decide +kernel
theorem dX10_adds_47 : decode cX10_adds 47 = .ok (.aload_n 0, 1) := by decide +kernel
theorem dX10_adds_48 : decode cX10_adds 48 = .ok (.invokevirtual 261, 3) := by decide +kernel
theorem dX10_adds_51 : decode cX10_adds 51 = .ok (.if_icmp .ge 31, 3) := by decide +kernel
theorem dX10_adds_54 : decode cX10_adds 54 = .ok (.iload_n 3, 1) := by decide +kernel
theorem dX10_adds_55 : decode cX10_adds 55 = .ok (.aload_n 0, 1) := by decide +kernel
theorem dX10_adds_56 : decode cX10_adds 56 = .ok (.iload 4, 2) := by decide +kernel
theorem dX10_adds_58 : decode cX10_adds 58 = .ok (.iload_n 2, 1) := by decide +kernel
theorem dX10_adds_59 : decode cX10_adds 59 = .ok (.iconst 0, 1) := by decide +kernel
theorem dX10_adds_60 : decode cX10_adds 60 = .ok (.invokevirtual 303, 3) := by decide +kernel
theorem dX10_adds_63 : decode cX10_adds 63 = .ok (.ifCond .eq 10, 3) := by decide +kernel
theorem dX10_adds_66 : decode cX10_adds 66 = .ok (.iconst 1, 1) := by decide +kernel
theorem dX10_adds_67 : decode cX10_adds 67 = .ok (.iload 4, 2) := by decide +kernel
theorem dX10_adds_69 : decode cX10_adds 69 = .ok (.ishl, 1) := by decide +kernel
theorem dX10_adds_70 : decode cX10_adds 70 = .ok (.goto 4, 3) := by decide +kernel
theorem dX10_adds_73 : decode cX10_adds 73 = .ok (.iconst 0, 1) := by decide +kernel
theorem dX10_adds_74 : decode cX10_adds 74 = .ok (.ior, 1) := by decide +kernel
theorem dX10_adds_75 : decode cX10_adds 75 = .ok (.istore_n 3, 1) := by decide +kernel
theorem dX10_adds_76 : decode cX10_adds 76 = .ok (.iinc 4 1, 3) := by decide +kernel
theorem dX10_adds_79 : decode cX10_adds 79 = .ok (.goto (-34), 3) := by decide +kernel
theorem dX10_adds_82 : decode cX10_adds 82 = .ok (.iload_n 3, 1) := by decide +kernel
theorem dX10_adds_83 : decode cX10_adds 83 = .ok (.ireturn, 1) := by decide +kernel
theorem dX10_dredge_0 : decode cX10_dredge 0 = .ok (.aload_n 0, 1) := by decide +kernel
theorem dX10_dredge_1 : decode cX10_dredge 1 = .ok (.iload_n 1, 1) := by decide +kernel
theorem dX10_dredge_2 : decode cX10_dredge 2 = .ok (.i2l, 1) := by decide +kernel
theorem dX10_dredge_3 : decode cX10_dredge 3 = .ok (.invokevirtual 230, 3) := by decide +kernel
theorem dX10_dredge_6 : decode cX10_dredge 6 = .ok (.ifCond .eq 12, 3) := by decide +kernel
theorem dX10_dredge_9 : decode cX10_dredge 9 = .ok (.aload_n 0, 1) := by decide +kernel
theorem dX10_dredge_10 : decode cX10_dredge 10 = .ok (.iload_n 2, 1) := by decide +kernel
theorem dX10_dredge_11 : decode cX10_dredge 11 = .ok (.i2l, 1) := by decide +kernel
theorem dX10_dredge_12 : decode cX10_dredge 12 = .ok (.invokevirtual 288, 3) := by decide +kernel
theorem dX10_dredge_15 : decode cX10_dredge 15 = .ok (.ifCond .ne 6, 3) := by decide +kernel
theorem dX10_dredge_18 : decode cX10_dredge 18 = .ok (.bipush (-2), 2) := by decide +kernel
theorem dX10_dredge_20 : decode cX10_dredge 20 = .ok (.ireturn, 1) := by decide +kernel
theorem dX10_dredge_21 : decode cX10_dredge 21 = .ok (.aload_n 0, 1) := by decide +kernel
theorem dX10_dredge_22 : decode cX10_dredge 22 = .ok (.sipush 10000, 3) := by decide +kernel
theorem dX10_dredge_25 : decode cX10_dredge 25 = .ok (.bipush 100, 2) := by decide +kernel
theorem dX10_dredge_27 : decode cX10_dredge 27 = .ok (.iload_n 1, 1) := by decide +kernel
theorem dX10_dredge_28 : decode cX10_dredge 28 = .ok (.imul, 1) := by decide +kernel
theorem dX10_dredge_29 : decode cX10_dredge 29 = .ok (.iadd, 1) := by decide +kernel
theorem dX10_dredge_30 : decode cX10_dredge 30 = .ok (.iload_n 2, 1) := by decide +kernel
theorem dX10_dredge_31 : decode cX10_dredge 31 = .ok (.iadd, 1) := by decide +kernel
theorem dX10_dredge_32 : decode cX10_dredge 32 = .ok (.invokevirtual 438, 3) := by decide +kernel
theorem dX10_dredge_35 : decode cX10_dredge 35 = .ok (.ifCond .ge 8, 3) := by decide +kernel
theorem dX10_dredge_38 : decode cX10_dredge 38 = .ok (.bipush (-5), 2) := by decide +kernel
theorem dX10_dredge_40 : decode cX10_dredge 40 = .ok (.goto 14, 3) := by decide +kernel
theorem dX10_dredge_43 : decode cX10_dredge 43 = .ok (.aload_n 0, 1) := by decide +kernel
theorem dX10_dredge_44 : decode cX10_dredge 44 = .ok (.iload_n 1, 1) := by decide +kernel
theorem dX10_dredge_45 : decode cX10_dredge 45 = .ok (.aload_n 0, 1) := by decide +kernel
theorem dX10_dredge_46 : decode cX10_dredge 46 = .ok (.invokevirtual 271, 3) := by decide +kernel
theorem dX10_dredge_49 : decode cX10_dredge 49 = .ok (.iconst 1, 1) := by decide +kernel
theorem dX10_dredge_50 : decode cX10_dredge 50 = .ok (.isub, 1) := by decide +kernel
theorem dX10_dredge_51 : decode cX10_dredge 51 = .ok (.invokevirtual 294, 3) := by decide +kernel
theorem dX10_dredge_54 : decode cX10_dredge 54 = .ok (.ireturn, 1) := by decide +kernel
theorem dX10_undo_0 : decode cX10_undo 0 = .ok (.aload_n 0, 1) := by decide +kernel
theorem dX10_undo_1 : decode cX10_undo 1 = .ok (.invokevirtual 282, 3) := by decide +kernel
theorem dX10_undo_4 : decode cX10_undo 4 = .ok (.ifCond .ne 6, 3) := by decide +kernel
theorem dX10_undo_7 : decode cX10_undo 7 = .ok (.bipush (-2), 2) := by decide +kernel
theorem dX10_undo_9 : decode cX10_undo 9 = .ok (.ireturn, 1) := by decide +kernel
theorem dX10_undo_10 : decode cX10_undo 10 = .ok (.aload_n 0, 1) := by decide +kernel
theorem dX10_undo_11 : decode cX10_undo 11 = .ok (.getfield 9, 3) := by decide +kernel
theorem dX10_undo_14 : decode cX10_undo 14 = .ok (.bipush 8, 2) := by decide +kernel
theorem dX10_undo_16 : decode cX10_undo 16 = .ok (.iaload, 1) := by decide +kernel
theorem dX10_undo_17 : decode cX10_undo 17 = .ok (.ifCond .ne 6, 3) := by decide +kernel
theorem dX10_undo_20 : decode cX10_undo 20 = .ok (.bipush (-5), 2) := by decide +kernel
theorem dX10_undo_22 : decode cX10_undo 22 = .ok (.ireturn, 1) := by decide +kernel
theorem dX10_undo_23 : decode cX10_undo 23 = .ok (.aload_n 0, 1) := by decide +kernel
theorem dX10_undo_24 : decode cX10_undo 24 = .ok (.getfield 9, 3) := by decide +kernel
theorem dX10_undo_27 : decode cX10_undo 27 = .ok (.bipush 8, 2) := by decide +kernel
theorem dX10_undo_29 : decode cX10_undo 29 = .ok (.dup2, 1) := by decide +kernel
theorem dX10_undo_30 : decode cX10_undo 30 = .ok (.iaload, 1) := by decide +kernel
theorem dX10_undo_31 : decode cX10_undo 31 = .ok (.iconst 1, 1) := by decide +kernel
theorem dX10_undo_32 : decode cX10_undo 32 = .ok (.isub, 1) := by decide +kernel
theorem dX10_undo_33 : decode cX10_undo 33 = .ok (.iastore, 1) := by decide +kernel
theorem dX10_undo_34 : decode cX10_undo 34 = .ok (.aload_n 0, 1) := by decide +kernel
theorem dX10_undo_35 : decode cX10_undo 35 = .ok (.getfield 9, 3) := by decide +kernel
theorem dX10_undo_38 : decode cX10_undo 38 = .ok (.bipush 8, 2) := by decide +kernel
theorem dX10_undo_40 : decode cX10_undo 40 = .ok (.iaload, 1) := by decide +kernel
theorem dX10_undo_41 : decode cX10_undo 41 = .ok (.ireturn, 1) := by decide +kernel
theorem dX10_anew_0 : decode cX10_anew 0 = .ok (.aload_n 0, 1) := by decide +kernel
theorem dX10_anew_1 : decode cX10_anew 1 = .ok (.invokevirtual 282, 3) := by decide +kernel
theorem dX10_anew_4 : decode cX10_anew 4 = .ok (.ifCond .ne 6, 3) := by decide +kernel
theorem dX10_anew_7 : decode cX10_anew 7 = .ok (.bipush (-2), 2) := by decide +kernel
theorem dX10_anew_9 : decode cX10_anew 9 = .ok (.ireturn, 1) := by decide +kernel
theorem dX10_anew_10 : decode cX10_anew 10 = .ok (.aload_n 0, 1) := by decide +kernel
theorem dX10_anew_11 : decode cX10_anew 11 = .ok (.getfield 9, 3) := by decide +kernel
theorem dX10_anew_14 : decode cX10_anew 14 = .ok (.bipush 8, 2) := by decide +kernel
theorem dX10_anew_16 : decode cX10_anew 16 = .ok (.iaload, 1) := by decide +kernel
theorem dX10_anew_17 : decode cX10_anew 17 = .ok (.istore_n 1, 1) := by decide +kernel
theorem dX10_anew_18 : decode cX10_anew 18 = .ok (.aload_n 0, 1) := by decide +kernel
theorem dX10_anew_19 : decode cX10_anew 19 = .ok (.getfield 9, 3) := by decide +kernel
theorem dX10_anew_22 : decode cX10_anew 22 = .ok (.bipush 8, 2) := by decide +kernel
theorem dX10_anew_24 : decode cX10_anew 24 = .ok (.iconst 0, 1) := by decide +kernel
theorem dX10_anew_25 : decode cX10_anew 25 = .ok (.iastore, 1) := by decide +kernel
theorem dX10_anew_26 : decode cX10_anew 26 = .ok (.iload_n 1, 1) := by decide +kernel
theorem dX10_anew_27 : decode cX10_anew 27 = .ok (.ireturn, 1) := by decide +kernel
theorem dX10_goDrawn_0 : decode cX10_goDrawn 0 = .ok (.aload_n 0, 1) := by decide +kernel
theorem dX10_goDrawn_1 : decode cX10_goDrawn 1 = .ok (.invokevirtual 276, 3) := by decide +kernel
theorem dX10_goDrawn_4 : decode cX10_goDrawn 4 = .ok (.aload_n 0, 1) := by decide +kernel
theorem dX10_goDrawn_5 : decode cX10_goDrawn 5 = .ok (.iconst 0, 1) := by decide +kernel
theorem dX10_goDrawn_6 : decode cX10_goDrawn 6 = .ok (.putfield 252, 3) := by decide +kernel
theorem dX10_goDrawn_9 : decode cX10_goDrawn 9 = .ok (.lload_n 1, 1) := by decide +kernel
theorem dX10_goDrawn_10 : decode cX10_goDrawn 10 = .ok (.lstore_n 3, 1) := by decide +kernel
theorem dX10_goDrawn_11 : decode cX10_goDrawn 11 = .ok (.iconst 0, 1) := by decide +kernel
theorem dX10_goDrawn_12 : decode cX10_goDrawn 12 = .ok (.istore 5, 2) := by decide +kernel
theorem dX10_goDrawn_14 : decode cX10_goDrawn 14 = .ok (.iload 5, 2) := by decide +kernel
theorem dX10_goDrawn_16 : decode cX10_goDrawn 16 = .ok (.aload_n 0, 1) := by decide +kernel
theorem dX10_goDrawn_17 : decode cX10_goDrawn 17 = .ok (.invokevirtual 271, 3) := by decide +kernel
theorem dX10_goDrawn_20 : decode cX10_goDrawn 20 = .ok (.if_icmp .ge 60, 3) := by decide +kernel
theorem dX10_goDrawn_23 : decode cX10_goDrawn 23 = .ok (.ldc2_w 441, 3) := by decide +kernel
theorem dX10_goDrawn_26 : decode cX10_goDrawn 26 = .ok (.lload_n 3, 1) := by decide +kernel
theorem dX10_goDrawn_27 : decode cX10_goDrawn 27 = .ok (.lmul, 1) := by decide +kernel
theorem dX10_goDrawn_28 : decode cX10_goDrawn 28 = .ok (.ldc2_w 443, 3) := by decide +kernel
theorem dX10_goDrawn_31 : decode cX10_goDrawn 31 = .ok (.ladd, 1) := by decide +kernel
theorem dX10_goDrawn_32 : decode cX10_goDrawn 32 = .ok (.ldc2_w 445, 3) := by decide +kernel
theorem dX10_goDrawn_35 : decode cX10_goDrawn 35 = .ok (.lrem, 1) := by decide +kernel
theorem dX10_goDrawn_36 : decode cX10_goDrawn 36 = .ok (.lstore_n 3, 1) := by decide +kernel
theorem dX10_goDrawn_37 : decode cX10_goDrawn 37 = .ok (.aload_n 0, 1) := by decide +kernel
theorem dX10_goDrawn_38 : decode cX10_goDrawn 38 = .ok (.dup, 1) := by decide +kernel
theorem dX10_goDrawn_39 : decode cX10_goDrawn 39 = .ok (.getfield 252, 3) := by decide +kernel
theorem dX10_goDrawn_42 : decode cX10_goDrawn 42 = .ok (.lload_n 3, 1) := by decide +kernel
theorem dX10_goDrawn_43 : decode cX10_goDrawn 43 = .ok (.ldc2_w 447, 3) := by decide +kernel
theorem dX10_goDrawn_46 : decode cX10_goDrawn 46 = .ok (.ldiv, 1) := by decide +kernel
theorem dX10_goDrawn_47 : decode cX10_goDrawn 47 = .ok (.ldc2_w 449, 3) := by decide +kernel
theorem dX10_goDrawn_50 : decode cX10_goDrawn 50 = .ok (.lrem, 1) := by decide +kernel
theorem dX10_goDrawn_51 : decode cX10_goDrawn 51 = .ok (.aload_n 0, 1) := by decide +kernel
theorem dX10_goDrawn_52 : decode cX10_goDrawn 52 = .ok (.getfield 9, 3) := by decide +kernel
theorem dX10_goDrawn_55 : decode cX10_goDrawn 55 = .ok (.iconst 2, 1) := by decide +kernel
theorem dX10_goDrawn_56 : decode cX10_goDrawn 56 = .ok (.iaload, 1) := by decide +kernel
theorem dX10_goDrawn_57 : decode cX10_goDrawn 57 = .ok (.i2l, 1) := by decide +kernel
theorem dX10_goDrawn_58 : decode cX10_goDrawn 58 = .ok (.lcmp, 1) := by decide +kernel
theorem dX10_goDrawn_59 : decode cX10_goDrawn 59 = .ok (.ifCond .ge 10, 3) := by decide +kernel
theorem dX10_goDrawn_62 : decode cX10_goDrawn 62 = .ok (.iconst 1, 1) := by decide +kernel
theorem dX10_goDrawn_63 : decode cX10_goDrawn 63 = .ok (.iload 5, 2) := by decide +kernel
theorem dX10_goDrawn_65 : decode cX10_goDrawn 65 = .ok (.ishl, 1) := by decide +kernel
theorem dX10_goDrawn_66 : decode cX10_goDrawn 66 = .ok (.goto 4, 3) := by decide +kernel
theorem dX10_goDrawn_69 : decode cX10_goDrawn 69 = .ok (.iconst 0, 1) := by decide +kernel
theorem dX10_goDrawn_70 : decode cX10_goDrawn 70 = .ok (.ior, 1) := by decide +kernel
theorem dX10_goDrawn_71 : decode cX10_goDrawn 71 = .ok (.putfield 252, 3) := by decide +kernel
theorem dX10_goDrawn_74 : decode cX10_goDrawn 74 = .ok (.iinc 5 1, 3) := by decide +kernel
theorem dX10_goDrawn_77 : decode cX10_goDrawn 77 = .ok (.goto (-63), 3) := by decide +kernel
theorem dX10_goDrawn_80 : decode cX10_goDrawn 80 = .ok (.aload_n 0, 1) := by decide +kernel
theorem dX10_goDrawn_81 : decode cX10_goDrawn 81 = .ok (.invokevirtual 279, 3) := by decide +kernel
theorem dX10_goDrawn_84 : decode cX10_goDrawn 84 = .ok (.return_, 1) := by decide +kernel
theorem dX10_isSeed_0 : decode cX10_isSeed 0 = .ok (.iload_n 0, 1) := by decide +kernel
theorem dX10_isSeed_1 : decode cX10_isSeed 1 = .ok (.i2l, 1) := by decide +kernel
theorem dX10_isSeed_2 : decode cX10_isSeed 2 = .ok (.lconst 0, 1) := by decide +kernel
theorem dX10_isSeed_3 : decode cX10_isSeed 3 = .ok (.ldc2_w 451, 3) := by decide +kernel
theorem dX10_isSeed_6 : decode cX10_isSeed 6 = .ok (.invokestatic 100, 3) := by decide +kernel
theorem dX10_isSeed_9 : decode cX10_isSeed 9 = .ok (.ireturn, 1) := by decide +kernel
theorem dX10_drawn_0 : decode cX10_drawn 0 = .ok (.aload_n 0, 1) := by decide +kernel
theorem dX10_drawn_1 : decode cX10_drawn 1 = .ok (.invokevirtual 282, 3) := by decide +kernel
theorem dX10_drawn_4 : decode cX10_drawn 4 = .ok (.ifCond .eq 20, 3) := by decide +kernel
theorem dX10_drawn_7 : decode cX10_drawn 7 = .ok (.iload_n 1, 1) := by decide +kernel
theorem dX10_drawn_8 : decode cX10_drawn 8 = .ok (.invokestatic 453, 3) := by decide +kernel
theorem dX10_drawn_11 : decode cX10_drawn 11 = .ok (.ifCond .eq 13, 3) := by decide +kernel
theorem dX10_drawn_14 : decode cX10_drawn 14 = .ok (.iload_n 2, 1) := by decide +kernel
theorem dX10_drawn_15 : decode cX10_drawn 15 = .ok (.i2l, 1) := by decide +kernel
theorem dX10_drawn_16 : decode cX10_drawn 16 = .ok (.lconst 0, 1) := by decide +kernel
theorem dX10_drawn_17 : decode cX10_drawn 17 = .ok (.lconst 1, 1) := by decide +kernel
theorem dX10_drawn_18 : decode cX10_drawn 18 = .ok (.invokestatic 100, 3) := by decide +kernel
theorem dX10_drawn_21 : decode cX10_drawn 21 = .ok (.ifCond .ne 6, 3) := by decide +kernel
theorem dX10_drawn_24 : decode cX10_drawn 24 = .ok (.bipush (-2), 2) := by decide +kernel
theorem dX10_drawn_26 : decode cX10_drawn 26 = .ok (.ireturn, 1) := by decide +kernel
theorem dX10_drawn_27 : decode cX10_drawn 27 = .ok (.aload_n 0, 1) := by decide +kernel
theorem dX10_drawn_28 : decode cX10_drawn 28 = .ok (.iload_n 1, 1) := by decide +kernel
theorem dX10_drawn_29 : decode cX10_drawn 29 = .ok (.i2l, 1) := by decide +kernel
theorem dX10_drawn_30 : decode cX10_drawn 30 = .ok (.invokevirtual 456, 3) := by decide +kernel
theorem dX10_drawn_33 : decode cX10_drawn 33 = .ok (.iload_n 2, 1) := by decide +kernel
theorem dX10_drawn_34 : decode cX10_drawn 34 = .ok (.ifCond .ne 10, 3) := by decide +kernel
theorem dX10_drawn_37 : decode cX10_drawn 37 = .ok (.aload_n 0, 1) := by decide +kernel
theorem dX10_drawn_38 : decode cX10_drawn 38 = .ok (.getfield 252, 3) := by decide +kernel
theorem dX10_drawn_41 : decode cX10_drawn 41 = .ok (.goto 7, 3) := by decide +kernel
theorem dX10_drawn_44 : decode cX10_drawn 44 = .ok (.aload_n 0, 1) := by decide +kernel
theorem dX10_drawn_45 : decode cX10_drawn 45 = .ok (.invokevirtual 334, 3) := by decide +kernel
theorem dX10_drawn_48 : decode cX10_drawn 48 = .ok (.ireturn, 1) := by decide +kernel
theorem dX10_luck_0 : decode cX10_luck 0 = .ok (.iload_n 1, 1) := by decide +kernel
theorem dX10_luck_1 : decode cX10_luck 1 = .ok (.invokestatic 453, 3) := by decide +kernel
theorem dX10_luck_4 : decode cX10_luck 4 = .ok (.ifCond .eq 23, 3) := by decide +kernel
theorem dX10_luck_7 : decode cX10_luck 7 = .ok (.iload_n 2, 1) := by decide +kernel
theorem dX10_luck_8 : decode cX10_luck 8 = .ok (.i2l, 1) := by decide +kernel
theorem dX10_luck_9 : decode cX10_luck 9 = .ok (.lconst 1, 1) := by decide +kernel
theorem dX10_luck_10 : decode cX10_luck 10 = .ok (.ldc2_w 460, 3) := by decide +kernel
theorem dX10_luck_13 : decode cX10_luck 13 = .ok (.invokestatic 100, 3) := by decide +kernel
theorem dX10_luck_16 : decode cX10_luck 16 = .ok (.ifCond .eq 11, 3) := by decide +kernel
theorem dX10_luck_19 : decode cX10_luck 19 = .ok (.aload_n 0, 1) := by decide +kernel
theorem dX10_luck_20 : decode cX10_luck 20 = .ok (.iload_n 3, 1) := by decide +kernel
theorem dX10_luck_21 : decode cX10_luck 21 = .ok (.invokevirtual 239, 3) := by decide +kernel
theorem dX10_luck_24 : decode cX10_luck 24 = .ok (.ifCond .ne 6, 3) := by decide +kernel
theorem dX10_luck_27 : decode cX10_luck 27 = .ok (.bipush (-2), 2) := by decide +kernel
theorem dX10_luck_29 : decode cX10_luck 29 = .ok (.ireturn, 1) := by decide +kernel
theorem dX10_luck_30 : decode cX10_luck 30 = .ok (.iconst 0, 1) := by decide +kernel
theorem dX10_luck_31 : decode cX10_luck 31 = .ok (.istore 4, 2) := by decide +kernel
theorem dX10_luck_33 : decode cX10_luck 33 = .ok (.iconst 0, 1) := by decide +kernel
theorem dX10_luck_34 : decode cX10_luck 34 = .ok (.istore 5, 2) := by decide +kernel
theorem dX10_luck_36 : decode cX10_luck 36 = .ok (.iload 5, 2) := by decide +kernel
theorem dX10_luck_38 : decode cX10_luck 38 = .ok (.iload_n 2, 1) := by decide +kernel
theorem dX10_luck_39 : decode cX10_luck 39 = .ok (.if_icmp .ge 37, 3) := by decide +kernel
theorem dX10_luck_42 : decode cX10_luck 42 = .ok (.aload_n 0, 1) := by decide +kernel
theorem dX10_luck_43 : decode cX10_luck 43 = .ok (.iload_n 1, 1) := by decide +kernel
theorem dX10_luck_44 : decode cX10_luck 44 = .ok (.i2l, 1) := by decide +kernel
theorem dX10_luck_45 : decode cX10_luck 45 = .ok (.iload 5, 2) := by decide +kernel
theorem dX10_luck_47 : decode cX10_luck 47 = .ok (.i2l, 1) := by decide +kernel
theorem dX10_luck_48 : decode cX10_luck 48 = .ok (.ladd, 1) := by decide +kernel
theorem dX10_luck_49 : decode cX10_luck 49 = .ok (.invokevirtual 456, 3) := by decide +kernel
theorem dX10_luck_52 : decode cX10_luck 52 = .ok (.iload 4, 2) := by decide +kernel
theorem dX10_luck_54 : decode cX10_luck 54 = .ok (.aload_n 0, 1) := by decide +kernel
theorem dX10_luck_55 : decode cX10_luck 55 = .ok (.iload_n 3, 1) := by decide +kernel
theorem dX10_luck_56 : decode cX10_luck 56 = .ok (.invokevirtual 331, 3) := by decide +kernel
theorem dX10_luck_59 : decode cX10_luck 59 = .ok (.ifCond .eq 7, 3) := by decide +kernel
theorem dX10_luck_62 : decode cX10_luck 62 = .ok (.iconst 1, 1) := by decide +kernel
theorem dX10_luck_63 : decode cX10_luck 63 = .ok (.goto 4, 3) := by decide +kernel
theorem dX10_luck_66 : decode cX10_luck 66 = .ok (.iconst 0, 1) := by decide +kernel
theorem dX10_luck_67 : decode cX10_luck 67 = .ok (.iadd, 1) := by decide +kernel
theorem dX10_luck_68 : decode cX10_luck 68 = .ok (.istore 4, 2) := by decide +kernel
theorem dX10_luck_70 : decode cX10_luck 70 = .ok (.iinc 5 1, 3) := by decide +kernel
theorem dX10_luck_73 : decode cX10_luck 73 = .ok (.goto (-37), 3) := by decide +kernel
theorem dX10_luck_76 : decode cX10_luck 76 = .ok (.iload 4, 2) := by decide +kernel
theorem dX10_luck_78 : decode cX10_luck 78 = .ok (.ireturn, 1) := by decide +kernel
theorem dX10_digs_0 : decode cX10_digs 0 = .ok (.aload_n 0, 1) := by decide +kernel
theorem dX10_digs_1 : decode cX10_digs 1 = .ok (.iload_n 1, 1) := by decide +kernel
theorem dX10_digs_2 : decode cX10_digs 2 = .ok (.i2l, 1) := by decide +kernel
theorem dX10_digs_3 : decode cX10_digs 3 = .ok (.invokevirtual 230, 3) := by decide +kernel
theorem dX10_digs_6 : decode cX10_digs 6 = .ok (.ifCond .eq 15, 3) := by decide +kernel
theorem dX10_digs_9 : decode cX10_digs 9 = .ok (.iload_n 2, 1) := by decide +kernel
theorem dX10_digs_10 : decode cX10_digs 10 = .ok (.i2l, 1) := by decide +kernel
theorem dX10_digs_11 : decode cX10_digs 11 = .ok (.lconst 1, 1) := by decide +kernel
theorem dX10_digs_12 : decode cX10_digs 12 = .ok (.ldc2_w 436, 3) := by decide +kernel
theorem dX10_digs_15 : decode cX10_digs 15 = .ok (.invokestatic 100, 3) := by decide +kernel
theorem dX10_digs_18 : decode cX10_digs 18 = .ok (.ifCond .ne 6, 3) := by decide +kernel
theorem dX10_digs_21 : decode cX10_digs 21 = .ok (.bipush (-2), 2) := by decide +kernel
theorem dX10_digs_23 : decode cX10_digs 23 = .ok (.ireturn, 1) := by decide +kernel
theorem dX10_digs_24 : decode cX10_digs 24 = .ok (.aload_n 0, 1) := by decide +kernel
theorem dX10_digs_25 : decode cX10_digs 25 = .ok (.getfield 9, 3) := by decide +kernel
theorem dX10_digs_28 : decode cX10_digs 28 = .ok (.bipush 8, 2) := by decide +kernel
theorem dX10_digs_30 : decode cX10_digs 30 = .ok (.iaload, 1) := by decide +kernel
theorem dX10_digs_31 : decode cX10_digs 31 = .ok (.ifCond .le 6, 3) := by decide +kernel
theorem dX10_digs_34 : decode cX10_digs 34 = .ok (.bipush (-5), 2) := by decide +kernel
theorem dX10_digs_36 : decode cX10_digs 36 = .ok (.ireturn, 1) := by decide +kernel
theorem dX10_digs_37 : decode cX10_digs 37 = .ok (.aload_n 0, 1) := by decide +kernel
theorem dX10_digs_38 : decode cX10_digs 38 = .ok (.iload_n 1, 1) := by decide +kernel
theorem dX10_digs_39 : decode cX10_digs 39 = .ok (.iconst 0, 1) := by decide +kernel
theorem dX10_digs_40 : decode cX10_digs 40 = .ok (.invokevirtual 236, 3) := by decide +kernel
theorem dX10_digs_43 : decode cX10_digs 43 = .ok (.istore_n 3, 1) := by decide +kernel
theorem dX10_digs_44 : decode cX10_digs 44 = .ok (.aload_n 0, 1) := by decide +kernel
theorem dX10_digs_45 : decode cX10_digs 45 = .ok (.getfield 9, 3) := by decide +kernel
theorem dX10_digs_48 : decode cX10_digs 48 = .ok (.bipush 10, 2) := by decide +kernel
theorem dX10_digs_50 : decode cX10_digs 50 = .ok (.iconst 4, 1) := by decide +kernel
theorem dX10_digs_51 : decode cX10_digs 51 = .ok (.iload_n 1, 1) := by decide +kernel
theorem dX10_digs_52 : decode cX10_digs 52 = .ok (.imul, 1) := by decide +kernel
theorem dX10_digs_53 : decode cX10_digs 53 = .ok (.iadd, 1) := by decide +kernel
theorem dX10_digs_54 : decode cX10_digs 54 = .ok (.iload_n 2, 1) := by decide +kernel
theorem dX10_digs_55 : decode cX10_digs 55 = .ok (.iastore, 1) := by decide +kernel
theorem dX10_digs_56 : decode cX10_digs 56 = .ok (.iload_n 3, 1) := by decide +kernel
theorem dX10_digs_57 : decode cX10_digs 57 = .ok (.ireturn, 1) := by decide +kernel
theorem dX10_count_0 : decode cX10_count 0 = .ok (.iload_n 1, 1) := by decide +kernel
theorem dX10_count_1 : decode cX10_count 1 = .ok (.i2l, 1) := by decide +kernel
theorem dX10_count_2 : decode cX10_count 2 = .ok (.lconst 0, 1) := by decide +kernel
theorem dX10_count_3 : decode cX10_count 3 = .ok (.ldc2_w 436, 3) := by decide +kernel
theorem dX10_count_6 : decode cX10_count 6 = .ok (.invokestatic 100, 3) := by decide +kernel
theorem dX10_count_9 : decode cX10_count 9 = .ok (.ifCond .eq 10, 3) := by decide +kernel
theorem dX10_count_12 : decode cX10_count 12 = .ok (.aload_n 0, 1) := by decide +kernel
theorem dX10_count_13 : decode cX10_count 13 = .ok (.getfield 9, 3) := by decide +kernel
theorem dX10_count_16 : decode cX10_count 16 = .ok (.iload_n 1, 1) := by decide +kernel
theorem dX10_count_17 : decode cX10_count 17 = .ok (.iaload, 1) := by decide +kernel
theorem dX10_count_18 : decode cX10_count 18 = .ok (.ireturn, 1) := by decide +kernel
theorem dX10_count_19 : decode cX10_count 19 = .ok (.iload_n 1, 1) := by decide +kernel
theorem dX10_count_20 : decode cX10_count 20 = .ok (.bipush 10, 2) := by decide +kernel
theorem dX10_count_22 : decode cX10_count 22 = .ok (.if_icmp .ne 8, 3) := by decide +kernel
theorem dX10_count_25 : decode cX10_count 25 = .ok (.aload_n 0, 1) := by decide +kernel
theorem dX10_count_26 : decode cX10_count 26 = .ok (.getfield 104, 3) := by decide +kernel
theorem dX10_count_29 : decode cX10_count 29 = .ok (.ireturn, 1) := by decide +kernel
theorem dX10_count_30 : decode cX10_count 30 = .ok (.iload_n 1, 1) := by decide +kernel
theorem dX10_count_31 : decode cX10_count 31 = .ok (.bipush 11, 2) := by decide +kernel
theorem dX10_count_33 : decode cX10_count 33 = .ok (.if_icmp .eq 5, 3) := by decide +kernel
theorem dX10_count_36 : decode cX10_count 36 = .ok (.iconst (-1), 1) := by decide +kernel
theorem dX10_count_37 : decode cX10_count 37 = .ok (.ireturn, 1) := by decide +kernel
theorem dX10_count_38 : decode cX10_count 38 = .ok (.iconst 0, 1) := by decide +kernel
theorem dX10_count_39 : decode cX10_count 39 = .ok (.istore_n 2, 1) := by decide +kernel
theorem dX10_count_40 : decode cX10_count 40 = .ok (.iconst 0, 1) := by decide +kernel
theorem dX10_count_41 : decode cX10_count 41 = .ok (.istore_n 3, 1) := by decide +kernel
theorem dX10_count_42 : decode cX10_count 42 = .ok (.iload_n 3, 1) := by decide +kernel
theorem dX10_count_43 : decode cX10_count 43 = .ok (.iconst 4, 1) := by decide +kernel
theorem dX10_count_44 : decode cX10_count 44 = .ok (.if_icmp .ge 27, 3) := by decide +kernel
theorem dX10_count_47 : decode cX10_count 47 = .ok (.iload_n 2, 1) := by decide +kernel
theorem dX10_count_48 : decode cX10_count 48 = .ok (.aload_n 0, 1) := by decide +kernel
theorem dX10_count_49 : decode cX10_count 49 = .ok (.getfield 82, 3) := by decide +kernel
theorem dX10_count_52 : decode cX10_count 52 = .ok (.iload_n 3, 1) := by decide +kernel
theorem dX10_count_53 : decode cX10_count 53 = .ok (.iaload, 1) := by decide +kernel
theorem dX10_count_54 : decode cX10_count 54 = .ok (.iconst (-1), 1) := by decide +kernel
theorem dX10_count_55 : decode cX10_count 55 = .ok (.if_icmp .ne 7, 3) := by decide +kernel
theorem dX10_count_58 : decode cX10_count 58 = .ok (.iconst 0, 1) := by decide +kernel
theorem dX10_count_59 : decode cX10_count 59 = .ok (.goto 4, 3) := by decide +kernel
theorem dX10_count_62 : decode cX10_count 62 = .ok (.iconst 1, 1) := by decide +kernel
theorem dX10_count_63 : decode cX10_count 63 = .ok (.iadd, 1) := by decide +kernel
theorem dX10_count_64 : decode cX10_count 64 = .ok (.istore_n 2, 1) := by decide +kernel
theorem dX10_count_65 : decode cX10_count 65 = .ok (.iinc 3 1, 3) := by decide +kernel
theorem dX10_count_68 : decode cX10_count 68 = .ok (.goto (-26), 3) := by decide +kernel
theorem dX10_count_71 : decode cX10_count 71 = .ok (.iload_n 2, 1) := by decide +kernel
theorem dX10_count_72 : decode cX10_count 72 = .ok (.ireturn, 1) := by decide +kernel
theorem dX10_isSlot_0 : decode cX10_isSlot 0 = .ok (.iload_n 0, 1) := by decide +kernel
theorem dX10_isSlot_1 : decode cX10_isSlot 1 = .ok (.i2l, 1) := by decide +kernel
theorem dX10_isSlot_2 : decode cX10_isSlot 2 = .ok (.lconst 0, 1) := by decide +kernel
theorem dX10_isSlot_3 : decode cX10_isSlot 3 = .ok (.ldc2_w 234, 3) := by decide +kernel
theorem dX10_isSlot_6 : decode cX10_isSlot 6 = .ok (.invokestatic 100, 3) := by decide +kernel
theorem dX10_isSlot_9 : decode cX10_isSlot 9 = .ok (.ireturn, 1) := by decide +kernel
theorem dX10_cut_0 : decode cX10_cut 0 = .ok (.bipush 64, 2) := by decide +kernel
theorem dX10_cut_2 : decode cX10_cut 2 = .ok (.bipush 8, 2) := by decide +kernel
theorem dX10_cut_4 : decode cX10_cut 4 = .ok (.iload_n 2, 1) := by decide +kernel
theorem dX10_cut_5 : decode cX10_cut 5 = .ok (.ishl, 1) := by decide +kernel
theorem dX10_cut_6 : decode cX10_cut 6 = .ok (.isub, 1) := by decide +kernel
theorem dX10_cut_7 : decode cX10_cut 7 = .ok (.istore_n 3, 1) := by decide +kernel
theorem dX10_cut_8 : decode cX10_cut 8 = .ok (.lload_n 0, 1) := by decide +kernel
theorem dX10_cut_9 : decode cX10_cut 9 = .ok (.iload_n 3, 1) := by decide +kernel
theorem dX10_cut_10 : decode cX10_cut 10 = .ok (.lshl, 1) := by decide +kernel
theorem dX10_cut_11 : decode cX10_cut 11 = .ok (.iload_n 3, 1) := by decide +kernel
theorem dX10_cut_12 : decode cX10_cut 12 = .ok (.lshr, 1) := by decide +kernel
theorem dX10_cut_13 : decode cX10_cut 13 = .ok (.lreturn, 1) := by decide +kernel
theorem dX10_row_0 : decode cX10_row 0 = .ok (.iload_n 1, 1) := by decide +kernel
theorem dX10_row_1 : decode cX10_row 1 = .ok (.invokestatic 367, 3) := by decide +kernel
theorem dX10_row_4 : decode cX10_row 4 = .ok (.ifCond .eq 21, 3) := by decide +kernel
theorem dX10_row_7 : decode cX10_row 7 = .ok (.iload_n 2, 1) := by decide +kernel
theorem dX10_row_8 : decode cX10_row 8 = .ok (.i2l, 1) := by decide +kernel
theorem dX10_row_9 : decode cX10_row 9 = .ok (.lconst 0, 1) := by decide +kernel
theorem dX10_row_10 : decode cX10_row 10 = .ok (.ldc2_w 234, 3) := by decide +kernel
theorem dX10_row_13 : decode cX10_row 13 = .ok (.invokestatic 100, 3) := by decide +kernel
theorem dX10_row_16 : decode cX10_row 16 = .ok (.ifCond .eq 9, 3) := by decide +kernel
theorem dX10_row_19 : decode cX10_row 19 = .ok (.iload_n 3, 1) := by decide +kernel
theorem dX10_row_20 : decode cX10_row 20 = .ok (.bipush 60, 2) := by decide +kernel
theorem dX10_row_22 : decode cX10_row 22 = .ok (.if_icmp .le 6, 3) := by decide +kernel
theorem dX10_row_25 : decode cX10_row 25 = .ok (.bipush (-2), 2) := by decide +kernel
theorem dX10_row_27 : decode cX10_row 27 = .ok (.ireturn, 1) := by decide +kernel
theorem dX10_row_28 : decode cX10_row 28 = .ok (.iload_n 3, 1) := by decide +kernel
theorem dX10_row_29 : decode cX10_row 29 = .ok (.ifCond .ge 6, 3) := by decide +kernel
theorem dX10_row_32 : decode cX10_row 32 = .ok (.bipush (-3), 2) := by decide +kernel
theorem dX10_row_34 : decode cX10_row 34 = .ok (.ireturn, 1) := by decide +kernel
theorem dX10_row_35 : decode cX10_row 35 = .ok (.aload_n 0, 1) := by decide +kernel
theorem dX10_row_36 : decode cX10_row 36 = .ok (.getfield 82, 3) := by decide +kernel
theorem dX10_row_39 : decode cX10_row 39 = .ok (.iload_n 1, 1) := by decide +kernel
theorem dX10_row_40 : decode cX10_row 40 = .ok (.iload_n 3, 1) := by decide +kernel
theorem dX10_row_41 : decode cX10_row 41 = .ok (.iastore, 1) := by decide +kernel
theorem dX10_row_42 : decode cX10_row 42 = .ok (.aload_n 0, 1) := by decide +kernel
theorem dX10_row_43 : decode cX10_row 43 = .ok (.getfield 85, 3) := by decide +kernel
theorem dX10_row_46 : decode cX10_row 46 = .ok (.iload_n 1, 1) := by decide +kernel
theorem dX10_row_47 : decode cX10_row 47 = .ok (.iload_n 2, 1) := by decide +kernel
theorem dX10_row_48 : decode cX10_row 48 = .ok (.iastore, 1) := by decide +kernel
theorem dX10_row_49 : decode cX10_row 49 = .ok (.iconst 0, 1) := by decide +kernel
theorem dX10_row_50 : decode cX10_row 50 = .ok (.istore 4, 2) := by decide +kernel
theorem dX10_row_52 : decode cX10_row 52 = .ok (.iload 4, 2) := by decide +kernel
theorem dX10_row_54 : decode cX10_row 54 = .ok (.bipush 60, 2) := by decide +kernel
theorem dX10_row_56 : decode cX10_row 56 = .ok (.if_icmp .ge 22, 3) := by decide +kernel
theorem dX10_row_59 : decode cX10_row 59 = .ok (.aload_n 0, 1) := by decide +kernel
theorem dX10_row_60 : decode cX10_row 60 = .ok (.getfield 88, 3) := by decide +kernel
theorem dX10_row_63 : decode cX10_row 63 = .ok (.bipush 60, 2) := by decide +kernel
theorem dX10_row_65 : decode cX10_row 65 = .ok (.iload_n 1, 1) := by decide +kernel
theorem dX10_row_66 : decode cX10_row 66 = .ok (.imul, 1) := by decide +kernel
theorem dX10_row_67 : decode cX10_row 67 = .ok (.iload 4, 2) := by decide +kernel
theorem dX10_row_69 : decode cX10_row 69 = .ok (.iadd, 1) := by decide +kernel
theorem dX10_row_70 : decode cX10_row 70 = .ok (.lconst 0, 1) := by decide +kernel
theorem dX10_row_71 : decode cX10_row 71 = .ok (.lastore, 1) := by decide +kernel
theorem dX10_row_72 : decode cX10_row 72 = .ok (.iinc 4 1, 3) := by decide +kernel
theorem dX10_row_75 : decode cX10_row 75 = .ok (.goto (-23), 3) := by decide +kernel
theorem dX10_row_78 : decode cX10_row 78 = .ok (.iconst 0, 1) := by decide +kernel
theorem dX10_row_79 : decode cX10_row 79 = .ok (.ireturn, 1) := by decide +kernel
theorem dX10_write_0 : decode cX10_write 0 = .ok (.iload_n 1, 1) := by decide +kernel
theorem dX10_write_1 : decode cX10_write 1 = .ok (.invokestatic 367, 3) := by decide +kernel
theorem dX10_write_4 : decode cX10_write 4 = .ok (.ifCond .ne 6, 3) := by decide +kernel
theorem dX10_write_7 : decode cX10_write 7 = .ok (.bipush (-2), 2) := by decide +kernel
theorem dX10_write_9 : decode cX10_write 9 = .ok (.ireturn, 1) := by decide +kernel
theorem dX10_write_10 : decode cX10_write 10 = .ok (.aload_n 0, 1) := by decide +kernel
theorem dX10_write_11 : decode cX10_write 11 = .ok (.getfield 82, 3) := by decide +kernel
theorem dX10_write_14 : decode cX10_write 14 = .ok (.iload_n 1, 1) := by decide +kernel
theorem dX10_write_15 : decode cX10_write 15 = .ok (.iaload, 1) := by decide +kernel
theorem dX10_write_16 : decode cX10_write 16 = .ok (.iconst (-1), 1) := by decide +kernel
theorem dX10_write_17 : decode cX10_write 17 = .ok (.if_icmp .ne 6, 3) := by decide +kernel
theorem dX10_write_20 : decode cX10_write 20 = .ok (.bipush (-6), 2) := by decide +kernel
theorem dX10_write_22 : decode cX10_write 22 = .ok (.ireturn, 1) := by decide +kernel
theorem dX10_write_23 : decode cX10_write 23 = .ok (.iload_n 2, 1) := by decide +kernel
theorem dX10_write_24 : decode cX10_write 24 = .ok (.i2l, 1) := by decide +kernel
theorem dX10_write_25 : decode cX10_write 25 = .ok (.lconst 0, 1) := by decide +kernel
theorem dX10_write_26 : decode cX10_write 26 = .ok (.aload_n 0, 1) := by decide +kernel
theorem dX10_write_27 : decode cX10_write 27 = .ok (.getfield 82, 3) := by decide +kernel
theorem dX10_write_30 : decode cX10_write 30 = .ok (.iload_n 1, 1) := by decide +kernel
theorem dX10_write_31 : decode cX10_write 31 = .ok (.iaload, 1) := by decide +kernel
theorem dX10_write_32 : decode cX10_write 32 = .ok (.iconst 1, 1) := by decide +kernel
theorem dX10_write_33 : decode cX10_write 33 = .ok (.isub, 1) := by decide +kernel
theorem dX10_write_34 : decode cX10_write 34 = .ok (.i2l, 1) := by decide +kernel
theorem dX10_write_35 : decode cX10_write 35 = .ok (.invokestatic 100, 3) := by decide +kernel
theorem dX10_write_38 : decode cX10_write 38 = .ok (.ifCond .ne 6, 3) := by decide +kernel
theorem dX10_write_41 : decode cX10_write 41 = .ok (.bipush (-7), 2) := by decide +kernel
theorem dX10_write_43 : decode cX10_write 43 = .ok (.ireturn, 1) := by decide +kernel
theorem dX10_write_44 : decode cX10_write 44 = .ok (.aload_n 0, 1) := by decide +kernel
theorem dX10_write_45 : decode cX10_write 45 = .ok (.getfield 88, 3) := by decide +kernel
theorem dX10_write_48 : decode cX10_write 48 = .ok (.bipush 60, 2) := by decide +kernel
theorem dX10_write_50 : decode cX10_write 50 = .ok (.iload_n 1, 1) := by decide +kernel
theorem dX10_write_51 : decode cX10_write 51 = .ok (.imul, 1) := by decide +kernel
theorem dX10_write_52 : decode cX10_write 52 = .ok (.iload_n 2, 1) := by decide +kernel
theorem dX10_write_53 : decode cX10_write 53 = .ok (.iadd, 1) := by decide +kernel
theorem dX10_write_54 : decode cX10_write 54 = .ok (.lload_n 3, 1) := by decide +kernel
theorem dX10_write_55 : decode cX10_write 55 = .ok (.aload_n 0, 1) := by decide +kernel
theorem dX10_write_56 : decode cX10_write 56 = .ok (.getfield 85, 3) := by decide +kernel
theorem dX10_write_59 : decode cX10_write 59 = .ok (.iload_n 1, 1) := by decide +kernel
theorem dX10_write_60 : decode cX10_write 60 = .ok (.iaload, 1) := by decide +kernel
theorem dX10_write_61 : decode cX10_write 61 = .ok (.invokestatic 462, 3) := by decide +kernel
theorem dX10_write_64 : decode cX10_write 64 = .ok (.lastore, 1) := by decide +kernel
theorem dX10_write_65 : decode cX10_write 65 = .ok (.iconst 0, 1) := by decide +kernel
theorem dX10_write_66 : decode cX10_write 66 = .ok (.ireturn, 1) := by decide +kernel
theorem dX10_paste_0 : decode cX10_paste 0 = .ok (.iload_n 1, 1) := by decide +kernel
theorem dX10_paste_1 : decode cX10_paste 1 = .ok (.invokestatic 367, 3) := by decide +kernel
theorem dX10_paste_4 : decode cX10_paste 4 = .ok (.ifCond .eq 10, 3) := by decide +kernel
theorem dX10_paste_7 : decode cX10_paste 7 = .ok (.iload_n 3, 1) := by decide +kernel
theorem dX10_paste_8 : decode cX10_paste 8 = .ok (.invokestatic 367, 3) := by decide +kernel
theorem dX10_paste_11 : decode cX10_paste 11 = .ok (.ifCond .ne 6, 3) := by decide +kernel
theorem dX10_paste_14 : decode cX10_paste 14 = .ok (.bipush (-2), 2) := by decide +kernel
theorem dX10_paste_16 : decode cX10_paste 16 = .ok (.ireturn, 1) := by decide +kernel
theorem dX10_paste_17 : decode cX10_paste 17 = .ok (.aload_n 0, 1) := by decide +kernel
theorem dX10_paste_18 : decode cX10_paste 18 = .ok (.getfield 82, 3) := by decide +kernel
theorem dX10_paste_21 : decode cX10_paste 21 = .ok (.iload_n 1, 1) := by decide +kernel
theorem dX10_paste_22 : decode cX10_paste 22 = .ok (.iaload, 1) := by decide +kernel
theorem dX10_paste_23 : decode cX10_paste 23 = .ok (.iconst (-1), 1) := by decide +kernel
theorem dX10_paste_24 : decode cX10_paste 24 = .ok (.if_icmp .eq 13, 3) := by decide +kernel
theorem dX10_paste_27 : decode cX10_paste 27 = .ok (.aload_n 0, 1) := by decide +kernel
theorem dX10_paste_28 : decode cX10_paste 28 = .ok (.getfield 82, 3) := by decide +kernel
theorem dX10_paste_31 : decode cX10_paste 31 = .ok (.iload_n 3, 1) := by decide +kernel
theorem dX10_paste_32 : decode cX10_paste 32 = .ok (.iaload, 1) := by decide +kernel
theorem dX10_paste_33 : decode cX10_paste 33 = .ok (.iconst (-1), 1) := by decide +kernel
theorem dX10_paste_34 : decode cX10_paste 34 = .ok (.if_icmp .ne 6, 3) := by decide +kernel
theorem dX10_paste_37 : decode cX10_paste 37 = .ok (.bipush (-6), 2) := by decide +kernel
theorem dX10_paste_39 : decode cX10_paste 39 = .ok (.ireturn, 1) := by decide +kernel
theorem dX10_paste_40 : decode cX10_paste 40 = .ok (.aload_n 0, 1) := by decide +kernel
theorem dX10_paste_41 : decode cX10_paste 41 = .ok (.getfield 85, 3) := by decide +kernel
theorem dX10_paste_44 : decode cX10_paste 44 = .ok (.iload_n 1, 1) := by decide +kernel
theorem dX10_paste_45 : decode cX10_paste 45 = .ok (.iaload, 1) := by decide +kernel
theorem dX10_paste_46 : decode cX10_paste 46 = .ok (.aload_n 0, 1) := by decide +kernel
theorem dX10_paste_47 : decode cX10_paste 47 = .ok (.getfield 85, 3) := by decide +kernel
theorem dX10_paste_50 : decode cX10_paste 50 = .ok (.iload_n 3, 1) := by decide +kernel
theorem dX10_paste_51 : decode cX10_paste 51 = .ok (.iaload, 1) := by decide +kernel
theorem dX10_paste_52 : decode cX10_paste 52 = .ok (.if_icmp .eq 6, 3) := by decide +kernel
theorem dX10_paste_55 : decode cX10_paste 55 = .ok (.bipush (-8), 2) := by decide +kernel
theorem dX10_paste_57 : decode cX10_paste 57 = .ok (.ireturn, 1) := by decide +kernel
theorem dX10_paste_58 : decode cX10_paste 58 = .ok (.iload_n 2, 1) := by decide +kernel
theorem dX10_paste_59 : decode cX10_paste 59 = .ok (.ifCond .lt 48, 3) := by decide +kernel
theorem dX10_paste_62 : decode cX10_paste 62 = .ok (.iload 4, 2) := by decide +kernel
theorem dX10_paste_64 : decode cX10_paste 64 = .ok (.ifCond .lt 43, 3) := by decide +kernel
theorem dX10_paste_67 : decode cX10_paste 67 = .ok (.iload 5, 2) := by decide +kernel
theorem dX10_paste_69 : decode cX10_paste 69 = .ok (.ifCond .lt 38, 3) := by decide +kernel
theorem dX10_paste_72 : decode cX10_paste 72 = .ok (.iload_n 2, 1) := by decide +kernel
theorem dX10_paste_73 : decode cX10_paste 73 = .ok (.i2l, 1) := by decide +kernel
theorem dX10_paste_74 : decode cX10_paste 74 = .ok (.iload 5, 2) := by decide +kernel
theorem dX10_paste_76 : decode cX10_paste 76 = .ok (.i2l, 1) := by decide +kernel
theorem dX10_paste_77 : decode cX10_paste 77 = .ok (.ladd, 1) := by decide +kernel
theorem dX10_paste_78 : decode cX10_paste 78 = .ok (.aload_n 0, 1) := by decide +kernel
theorem dX10_paste_79 : decode cX10_paste 79 = .ok (.getfield 82, 3) := by decide +kernel
theorem dX10_paste_82 : decode cX10_paste 82 = .ok (.iload_n 1, 1) := by decide +kernel
theorem dX10_paste_83 : decode cX10_paste 83 = .ok (.iaload, 1) := by decide +kernel
theorem dX10_paste_84 : decode cX10_paste 84 = .ok (.i2l, 1) := by decide +kernel
theorem dX10_paste_85 : decode cX10_paste 85 = .ok (.lcmp, 1) := by decide +kernel
theorem dX10_paste_86 : decode cX10_paste 86 = .ok (.ifCond .gt 21, 3) := by decide +kernel
theorem dX10_paste_89 : decode cX10_paste 89 = .ok (.iload 4, 2) := by decide +kernel
theorem dX10_paste_91 : decode cX10_paste 91 = .ok (.i2l, 1) := by decide +kernel
theorem dX10_paste_92 : decode cX10_paste 92 = .ok (.iload 5, 2) := by decide +kernel
theorem dX10_paste_94 : decode cX10_paste 94 = .ok (.i2l, 1) := by decide +kernel
theorem dX10_paste_95 : decode cX10_paste 95 = .ok (.ladd, 1) := by decide +kernel
theorem dX10_paste_96 : decode cX10_paste 96 = .ok (.aload_n 0, 1) := by decide +kernel
theorem dX10_paste_97 : decode cX10_paste 97 = .ok (.getfield 82, 3) := by decide +kernel
theorem dX10_paste_100 : decode cX10_paste 100 = .ok (.iload_n 3, 1) := by decide +kernel
theorem dX10_paste_101 : decode cX10_paste 101 = .ok (.iaload, 1) := by decide +kernel
theorem dX10_paste_102 : decode cX10_paste 102 = .ok (.i2l, 1) := by decide +kernel
theorem dX10_paste_103 : decode cX10_paste 103 = .ok (.lcmp, 1) := by decide +kernel
theorem dX10_paste_104 : decode cX10_paste 104 = .ok (.ifCond .le 6, 3) := by decide +kernel
theorem dX10_paste_107 : decode cX10_paste 107 = .ok (.bipush (-7), 2) := by decide +kernel
theorem dX10_paste_109 : decode cX10_paste 109 = .ok (.ireturn, 1) := by decide +kernel
theorem dX10_paste_110 : decode cX10_paste 110 = .ok (.iconst 0, 1) := by decide +kernel
theorem dX10_paste_111 : decode cX10_paste 111 = .ok (.istore 6, 2) := by decide +kernel
theorem dX10_paste_113 : decode cX10_paste 113 = .ok (.iload 6, 2) := by decide +kernel
theorem dX10_paste_115 : decode cX10_paste 115 = .ok (.iload 5, 2) := by decide +kernel
theorem dX10_paste_117 : decode cX10_paste 117 = .ok (.if_icmp .ge 30, 3) := by decide +kernel
theorem dX10_paste_120 : decode cX10_paste 120 = .ok (.aload_n 0, 1) := by decide +kernel
theorem dX10_paste_121 : decode cX10_paste 121 = .ok (.getfield 92, 3) := by decide +kernel
theorem dX10_paste_124 : decode cX10_paste 124 = .ok (.iload 6, 2) := by decide +kernel
theorem dX10_paste_126 : decode cX10_paste 126 = .ok (.aload_n 0, 1) := by decide +kernel
theorem dX10_paste_127 : decode cX10_paste 127 = .ok (.getfield 88, 3) := by decide +kernel
theorem dX10_paste_130 : decode cX10_paste 130 = .ok (.bipush 60, 2) := by decide +kernel
theorem dX10_paste_132 : decode cX10_paste 132 = .ok (.iload_n 1, 1) := by decide +kernel
theorem dX10_paste_133 : decode cX10_paste 133 = .ok (.imul, 1) := by decide +kernel
theorem dX10_paste_134 : decode cX10_paste 134 = .ok (.iload_n 2, 1) := by decide +kernel
theorem dX10_paste_135 : decode cX10_paste 135 = .ok (.iadd, 1) := by decide +kernel
theorem dX10_paste_136 : decode cX10_paste 136 = .ok (.iload 6, 2) := by decide +kernel
theorem dX10_paste_138 : decode cX10_paste 138 = .ok (.iadd, 1) := by decide +kernel
theorem dX10_paste_139 : decode cX10_paste 139 = .ok (.laload, 1) := by decide +kernel
theorem dX10_paste_140 : decode cX10_paste 140 = .ok (.lastore, 1) := by decide +kernel
theorem dX10_paste_141 : decode cX10_paste 141 = .ok (.iinc 6 1, 3) := by decide +kernel
theorem dX10_paste_144 : decode cX10_paste 144 = .ok (.goto (-31), 3) := by decide +kernel
theorem dX10_paste_147 : decode cX10_paste 147 = .ok (.iconst 0, 1) := by decide +kernel
theorem dX10_paste_148 : decode cX10_paste 148 = .ok (.istore 6, 2) := by decide +kernel
theorem dX10_paste_150 : decode cX10_paste 150 = .ok (.iload 6, 2) := by decide +kernel
theorem dX10_paste_152 : decode cX10_paste 152 = .ok (.iload 5, 2) := by decide +kernel
theorem dX10_paste_154 : decode cX10_paste 154 = .ok (.if_icmp .ge 31, 3) := by decide +kernel
theorem dX10_paste_157 : decode cX10_paste 157 = .ok (.aload_n 0, 1) := by decide +kernel
theorem dX10_paste_158 : decode cX10_paste 158 = .ok (.getfield 88, 3) := by decide +kernel
theorem dX10_paste_161 : decode cX10_paste 161 = .ok (.bipush 60, 2) := by decide +kernel
theorem dX10_paste_163 : decode cX10_paste 163 = .ok (.iload_n 3, 1) := by decide +kernel
theorem dX10_paste_164 : decode cX10_paste 164 = .ok (.imul, 1) := by decide +kernel
theorem dX10_paste_165 : decode cX10_paste 165 = .ok (.iload 4, 2) := by decide +kernel
theorem dX10_paste_167 : decode cX10_paste 167 = .ok (.iadd, 1) := by decide +kernel
theorem dX10_paste_168 : decode cX10_paste 168 = .ok (.iload 6, 2) := by decide +kernel
theorem dX10_paste_170 : decode cX10_paste 170 = .ok (.iadd, 1) := by decide +kernel
theorem dX10_paste_171 : decode cX10_paste 171 = .ok (.aload_n 0, 1) := by decide +kernel
theorem dX10_paste_172 : decode cX10_paste 172 = .ok (.getfield 92, 3) := by decide +kernel
theorem dX10_paste_175 : decode cX10_paste 175 = .ok (.iload 6, 2) := by decide +kernel
theorem dX10_paste_177 : decode cX10_paste 177 = .ok (.laload, 1) := by decide +kernel
theorem dX10_paste_178 : decode cX10_paste 178 = .ok (.lastore, 1) := by decide +kernel
theorem dX10_paste_179 : decode cX10_paste 179 = .ok (.iinc 6 1, 3) := by decide +kernel
theorem dX10_paste_182 : decode cX10_paste 182 = .ok (.goto (-32), 3) := by decide +kernel
theorem dX10_paste_185 : decode cX10_paste 185 = .ok (.iconst 0, 1) := by decide +kernel
theorem dX10_paste_186 : decode cX10_paste 186 = .ok (.ireturn, 1) := by decide +kernel
theorem dJ6_bitCount_0f7a4_0 : decode cJ6_bitCount_0f7a4 0 = .ok (.iload_n 0, 1) := by decide +kernel
theorem dJ6_bitCount_0f7a4_1 : decode cJ6_bitCount_0f7a4 1 = .ok (.iload_n 0, 1) := by decide +kernel
theorem dJ6_bitCount_0f7a4_2 : decode cJ6_bitCount_0f7a4 2 = .ok (.iconst 1, 1) := by decide +kernel
theorem dJ6_bitCount_0f7a4_3 : decode cJ6_bitCount_0f7a4 3 = .ok (.iushr, 1) := by decide +kernel
theorem dJ6_bitCount_0f7a4_4 : decode cJ6_bitCount_0f7a4 4 = .ok (.ldc_w 265, 3) := by decide +kernel
theorem dJ6_bitCount_0f7a4_7 : decode cJ6_bitCount_0f7a4 7 = .ok (.iand, 1) := by decide +kernel
theorem dJ6_bitCount_0f7a4_8 : decode cJ6_bitCount_0f7a4 8 = .ok (.isub, 1) := by decide +kernel
theorem dJ6_bitCount_0f7a4_9 : decode cJ6_bitCount_0f7a4 9 = .ok (.istore_n 0, 1) := by decide +kernel
theorem dJ6_bitCount_0f7a4_10 : decode cJ6_bitCount_0f7a4 10 = .ok (.iload_n 0, 1) := by decide +kernel
theorem dJ6_bitCount_0f7a4_11 : decode cJ6_bitCount_0f7a4 11 = .ok (.ldc_w 266, 3) := by decide +kernel
theorem dJ6_bitCount_0f7a4_14 : decode cJ6_bitCount_0f7a4 14 = .ok (.iand, 1) := by decide +kernel
theorem dJ6_bitCount_0f7a4_15 : decode cJ6_bitCount_0f7a4 15 = .ok (.iload_n 0, 1) := by decide +kernel
theorem dJ6_bitCount_0f7a4_16 : decode cJ6_bitCount_0f7a4 16 = .ok (.iconst 2, 1) := by decide +kernel
theorem dJ6_bitCount_0f7a4_17 : decode cJ6_bitCount_0f7a4 17 = .ok (.iushr, 1) := by decide +kernel
theorem dJ6_bitCount_0f7a4_18 : decode cJ6_bitCount_0f7a4 18 = .ok (.ldc_w 266, 3) := by decide +kernel
theorem dJ6_bitCount_0f7a4_21 : decode cJ6_bitCount_0f7a4 21 = .ok (.iand, 1) := by decide +kernel
theorem dJ6_bitCount_0f7a4_22 : decode cJ6_bitCount_0f7a4 22 = .ok (.iadd, 1) := by decide +kernel
theorem dJ6_bitCount_0f7a4_23 : decode cJ6_bitCount_0f7a4 23 = .ok (.istore_n 0, 1) := by decide +kernel
theorem dJ6_bitCount_0f7a4_24 : decode cJ6_bitCount_0f7a4 24 = .ok (.iload_n 0, 1) := by decide +kernel
theorem dJ6_bitCount_0f7a4_25 : decode cJ6_bitCount_0f7a4 25 = .ok (.iload_n 0, 1) := by decide +kernel
theorem dJ6_bitCount_0f7a4_26 : decode cJ6_bitCount_0f7a4 26 = .ok (.iconst 4, 1) := by decide +kernel
theorem dJ6_bitCount_0f7a4_27 : decode cJ6_bitCount_0f7a4 27 = .ok (.iushr, 1) := by decide +kernel
theorem dJ6_bitCount_0f7a4_28 : decode cJ6_bitCount_0f7a4 28 = .ok (.iadd, 1) := by decide +kernel
theorem dJ6_bitCount_0f7a4_29 : decode cJ6_bitCount_0f7a4 29 = .ok (.ldc_w 267, 3) := by decide +kernel
theorem dJ6_bitCount_0f7a4_32 : decode cJ6_bitCount_0f7a4 32 = .ok (.iand, 1) := by decide +kernel
theorem dJ6_bitCount_0f7a4_33 : decode cJ6_bitCount_0f7a4 33 = .ok (.istore_n 0, 1) := by decide +kernel
theorem dJ6_bitCount_0f7a4_34 : decode cJ6_bitCount_0f7a4 34 = .ok (.iload_n 0, 1) := by decide +kernel
theorem dJ6_bitCount_0f7a4_35 : decode cJ6_bitCount_0f7a4 35 = .ok (.iload_n 0, 1) := by decide +kernel
theorem dJ6_bitCount_0f7a4_36 : decode cJ6_bitCount_0f7a4 36 = .ok (.bipush 8, 2) := by decide +kernel
theorem dJ6_bitCount_0f7a4_38 : decode cJ6_bitCount_0f7a4 38 = .ok (.iushr, 1) := by decide +kernel
theorem dJ6_bitCount_0f7a4_39 : decode cJ6_bitCount_0f7a4 39 = .ok (.iadd, 1) := by decide +kernel
theorem dJ6_bitCount_0f7a4_40 : decode cJ6_bitCount_0f7a4 40 = .ok (.istore_n 0, 1) := by decide +kernel
theorem dJ6_bitCount_0f7a4_41 : decode cJ6_bitCount_0f7a4 41 = .ok (.iload_n 0, 1) := by decide +kernel
theorem dJ6_bitCount_0f7a4_42 : decode cJ6_bitCount_0f7a4 42 = .ok (.iload_n 0, 1) := by decide +kernel
theorem dJ6_bitCount_0f7a4_43 : decode cJ6_bitCount_0f7a4 43 = .ok (.bipush 16, 2) := by decide +kernel
theorem dJ6_bitCount_0f7a4_45 : decode cJ6_bitCount_0f7a4 45 = .ok (.iushr, 1) := by decide +kernel
theorem dJ6_bitCount_0f7a4_46 : decode cJ6_bitCount_0f7a4 46 = .ok (.iadd, 1) := by decide +kernel
theorem dJ6_bitCount_0f7a4_47 : decode cJ6_bitCount_0f7a4 47 = .ok (.istore_n 0, 1) := by decide +kernel
theorem dJ6_bitCount_0f7a4_48 : decode cJ6_bitCount_0f7a4 48 = .ok (.iload_n 0, 1) := by decide +kernel
theorem dJ6_bitCount_0f7a4_49 : decode cJ6_bitCount_0f7a4 49 = .ok (.bipush 63, 2) := by decide +kernel
theorem dJ6_bitCount_0f7a4_51 : decode cJ6_bitCount_0f7a4 51 = .ok (.iand, 1) := by decide +kernel
theorem dJ6_bitCount_0f7a4_52 : decode cJ6_bitCount_0f7a4 52 = .ok (.ireturn, 1) := by decide +kernel
theorem dJ9_abs_067f4_0 : decode cJ9_abs_067f4 0 = .ok (.lload_n 0, 1) := by decide +kernel
theorem dJ9_abs_067f4_1 : decode cJ9_abs_067f4 1 = .ok (.lconst 0, 1) := by decide +kernel
theorem dJ9_abs_067f4_2 : decode cJ9_abs_067f4 2 = .ok (.lcmp, 1) := by decide +kernel
theorem dJ9_abs_067f4_3 : decode cJ9_abs_067f4 3 = .ok (.ifCond .ge 8, 3) := by decide +kernel
theorem dJ9_abs_067f4_6 : decode cJ9_abs_067f4 6 = .ok (.lload_n 0, 1) := by decide +kernel
theorem dJ9_abs_067f4_7 : decode cJ9_abs_067f4 7 = .ok (.lneg, 1) := by decide +kernel
theorem dJ9_abs_067f4_8 : decode cJ9_abs_067f4 8 = .ok (.goto 4, 3) := by decide +kernel
theorem dJ9_abs_067f4_11 : decode cJ9_abs_067f4 11 = .ok (.lload_n 0, 1) := by decide +kernel
theorem dJ9_abs_067f4_12 : decode cJ9_abs_067f4 12 = .ok (.lreturn, 1) := by decide +kernel
theorem dJ9_max_7cf53_0 : decode cJ9_max_7cf53 0 = .ok (.iload_n 0, 1) := by decide +kernel
theorem dJ9_max_7cf53_1 : decode cJ9_max_7cf53 1 = .ok (.iload_n 1, 1) := by decide +kernel
theorem dJ9_max_7cf53_2 : decode cJ9_max_7cf53 2 = .ok (.if_icmp .lt 7, 3) := by decide +kernel
theorem dJ9_max_7cf53_5 : decode cJ9_max_7cf53 5 = .ok (.iload_n 0, 1) := by decide +kernel
theorem dJ9_max_7cf53_6 : decode cJ9_max_7cf53 6 = .ok (.goto 4, 3) := by decide +kernel
theorem dJ9_max_7cf53_9 : decode cJ9_max_7cf53 9 = .ok (.iload_n 1, 1) := by decide +kernel
theorem dJ9_max_7cf53_10 : decode cJ9_max_7cf53 10 = .ok (.ireturn, 1) := by decide +kernel
theorem dJ9_min_7cf53_0 : decode cJ9_min_7cf53 0 = .ok (.iload_n 0, 1) := by decide +kernel
theorem dJ9_min_7cf53_1 : decode cJ9_min_7cf53 1 = .ok (.iload_n 1, 1) := by decide +kernel
theorem dJ9_min_7cf53_2 : decode cJ9_min_7cf53 2 = .ok (.if_icmp .gt 7, 3) := by decide +kernel
theorem dJ9_min_7cf53_5 : decode cJ9_min_7cf53 5 = .ok (.iload_n 0, 1) := by decide +kernel
theorem dJ9_min_7cf53_6 : decode cJ9_min_7cf53 6 = .ok (.goto 4, 3) := by decide +kernel
theorem dJ9_min_7cf53_9 : decode cJ9_min_7cf53 9 = .ok (.iload_n 1, 1) := by decide +kernel
theorem dJ9_min_7cf53_10 : decode cJ9_min_7cf53 10 = .ok (.ireturn, 1) := by decide +kernel
theorem dJ0_length_8abf5_0 : decode cJ0_length_8abf5 0 = .ok (.aload_n 0, 1) := by decide +kernel
theorem dJ0_length_8abf5_1 : decode cJ0_length_8abf5 1 = .ok (.getfield 9, 3) := by decide +kernel
theorem dJ0_length_8abf5_4 : decode cJ0_length_8abf5 4 = .ok (.arraylength, 1) := by decide +kernel
theorem dJ0_length_8abf5_5 : decode cJ0_length_8abf5 5 = .ok (.aload_n 0, 1) := by decide +kernel
theorem dJ0_length_8abf5_6 : decode cJ0_length_8abf5 6 = .ok (.invokevirtual 335, 3) := by decide +kernel
theorem dJ0_length_8abf5_9 : decode cJ0_length_8abf5 9 = .ok (.ishr, 1) := by decide +kernel
theorem dJ0_length_8abf5_10 : decode cJ0_length_8abf5 10 = .ok (.ireturn, 1) := by decide +kernel
theorem dJ0_charAt_5068e_0 : decode cJ0_charAt_5068e 0 = .ok (.aload_n 0, 1) := by decide +kernel
theorem dJ0_charAt_5068e_1 : decode cJ0_charAt_5068e 1 = .ok (.invokevirtual 492, 3) := by decide +kernel
theorem dJ0_charAt_5068e_4 : decode cJ0_charAt_5068e 4 = .ok (.ifCond .eq 12, 3) := by decide +kernel
theorem dJ0_charAt_5068e_7 : decode cJ0_charAt_5068e 7 = .ok (.aload_n 0, 1) := by decide +kernel
theorem dJ0_charAt_5068e_8 : decode cJ0_charAt_5068e 8 = .ok (.getfield 9, 3) := by decide +kernel
theorem dJ0_charAt_5068e_11 : decode cJ0_charAt_5068e 11 = .ok (.iload_n 1, 1) := by decide +kernel
theorem dJ0_charAt_5068e_12 : decode cJ0_charAt_5068e 12 = .ok (.invokestatic 495, 3) := by decide +kernel
theorem dJ0_charAt_5068e_15 : decode cJ0_charAt_5068e 15 = .ok (.ireturn, 1) := by decide +kernel
theorem dJ0_charAt_5068e_16 : decode cJ0_charAt_5068e 16 = .ok (.aload_n 0, 1) := by decide +kernel
theorem dJ0_charAt_5068e_17 : decode cJ0_charAt_5068e 17 = .ok (.getfield 9, 3) := by decide +kernel
theorem dJ0_charAt_5068e_20 : decode cJ0_charAt_5068e 20 = .ok (.iload_n 1, 1) := by decide +kernel
theorem dJ0_charAt_5068e_21 : decode cJ0_charAt_5068e 21 = .ok (.invokestatic 498, 3) := by decide +kernel
theorem dJ0_charAt_5068e_24 : decode cJ0_charAt_5068e 24 = .ok (.ireturn, 1) := by decide +kernel
theorem dJ0_coder_7d493_0 : decode cJ0_coder_7d493 0 = .ok (.getstatic 38, 3) := by decide +kernel
theorem dJ0_coder_7d493_3 : decode cJ0_coder_7d493 3 = .ok (.ifCond .eq 10, 3) := by decide +kernel
theorem dJ0_coder_7d493_6 : decode cJ0_coder_7d493 6 = .ok (.aload_n 0, 1) := by decide +kernel
theorem dJ0_coder_7d493_7 : decode cJ0_coder_7d493 7 = .ok (.getfield 15, 3) := by decide +kernel
theorem dJ0_coder_7d493_10 : decode cJ0_coder_7d493 10 = .ok (.goto 4, 3) := by decide +kernel
theorem dJ0_coder_7d493_13 : decode cJ0_coder_7d493 13 = .ok (.iconst 1, 1) := by decide +kernel
theorem dJ0_coder_7d493_14 : decode cJ0_coder_7d493 14 = .ok (.ireturn, 1) := by decide +kernel
theorem dJ0_isLatin1_aae02_0 : decode cJ0_isLatin1_aae02 0 = .ok (.getstatic 38, 3) := by decide +kernel
theorem dJ0_isLatin1_aae02_3 : decode cJ0_isLatin1_aae02 3 = .ok (.ifCond .eq 14, 3) := by decide +kernel
theorem dJ0_isLatin1_aae02_6 : decode cJ0_isLatin1_aae02 6 = .ok (.aload_n 0, 1) := by decide +kernel
theorem dJ0_isLatin1_aae02_7 : decode cJ0_isLatin1_aae02 7 = .ok (.getfield 15, 3) := by decide +kernel
theorem dJ0_isLatin1_aae02_10 : decode cJ0_isLatin1_aae02 10 = .ok (.ifCond .ne 7, 3) := by decide +kernel
theorem dJ0_isLatin1_aae02_13 : decode cJ0_isLatin1_aae02 13 = .ok (.iconst 1, 1) := by decide +kernel
theorem dJ0_isLatin1_aae02_14 : decode cJ0_isLatin1_aae02 14 = .ok (.goto 4, 3) := by decide +kernel
theorem dJ0_isLatin1_aae02_17 : decode cJ0_isLatin1_aae02 17 = .ok (.iconst 0, 1) := by decide +kernel
theorem dJ0_isLatin1_aae02_18 : decode cJ0_isLatin1_aae02 18 = .ok (.ireturn, 1) := by decide +kernel
theorem dJ0_checkIndex_df160_0 : decode cJ0_checkIndex_df160 0 = .ok (.iload_n 0, 1) := by decide +kernel
theorem dJ0_checkIndex_df160_1 : decode cJ0_checkIndex_df160 1 = .ok (.iload_n 1, 1) := by decide +kernel
theorem dJ0_checkIndex_df160_2 : decode cJ0_checkIndex_df160 2 = .ok (.getstatic 1053, 3) := by decide +kernel
theorem dJ0_checkIndex_df160_5 : decode cJ0_checkIndex_df160 5 = .ok (.invokestatic 1059, 3) := by decide +kernel
theorem dJ0_checkIndex_df160_8 : decode cJ0_checkIndex_df160 8 = .ok (.pop, 1) := by decide +kernel
theorem dJ0_checkIndex_df160_9 : decode cJ0_checkIndex_df160 9 = .ok (.return_, 1) := by decide +kernel
theorem dJ1_charAt_3b067_0 : decode cJ1_charAt_3b067 0 = .ok (.iload_n 1, 1) := by decide +kernel
theorem dJ1_charAt_3b067_1 : decode cJ1_charAt_3b067 1 = .ok (.aload_n 0, 1) := by decide +kernel
theorem dJ1_charAt_3b067_2 : decode cJ1_charAt_3b067 2 = .ok (.arraylength, 1) := by decide +kernel
theorem dJ1_charAt_3b067_3 : decode cJ1_charAt_3b067 3 = .ok (.invokestatic 9, 3) := by decide +kernel
theorem dJ1_charAt_3b067_6 : decode cJ1_charAt_3b067 6 = .ok (.aload_n 0, 1) := by decide +kernel
theorem dJ1_charAt_3b067_7 : decode cJ1_charAt_3b067 7 = .ok (.iload_n 1, 1) := by decide +kernel
theorem dJ1_charAt_3b067_8 : decode cJ1_charAt_3b067 8 = .ok (.baload, 1) := by decide +kernel
theorem dJ1_charAt_3b067_9 : decode cJ1_charAt_3b067 9 = .ok (.sipush 255, 3) := by decide +kernel
theorem dJ1_charAt_3b067_12 : decode cJ1_charAt_3b067 12 = .ok (.iand, 1) := by decide +kernel
theorem dJ1_charAt_3b067_13 : decode cJ1_charAt_3b067 13 = .ok (.i2c, 1) := by decide +kernel
theorem dJ1_charAt_3b067_14 : decode cJ1_charAt_3b067 14 = .ok (.ireturn, 1) := by decide +kernel
theorem dJ2_getChar_3b067_0 : decode cJ2_getChar_3b067 0 = .ok (.getstatic 44, 3) := by decide +kernel
theorem dJ2_getChar_3b067_3 : decode cJ2_getChar_3b067 3 = .ok (.ifCond .ne 25, 3) := by decide +kernel
theorem dJ2_getChar_3b067_6 : decode cJ2_getChar_3b067 6 = .ok (.iload_n 1, 1) := by decide +kernel
theorem dJ2_getChar_3b067_7 : decode cJ2_getChar_3b067 7 = .ok (.ifCond .lt 11, 3) := by decide +kernel
theorem dJ2_getChar_3b067_10 : decode cJ2_getChar_3b067 10 = .ok (.iload_n 1, 1) := by decide +kernel
theorem dJ2_getChar_3b067_11 : decode cJ2_getChar_3b067 11 = .ok (.aload_n 0, 1) := by decide +kernel
theorem dJ2_getChar_3b067_12 : decode cJ2_getChar_3b067 12 = .ok (.invokestatic 48, 3) := by decide +kernel
theorem dJ2_getChar_3b067_15 : decode cJ2_getChar_3b067 15 = .ok (.if_icmp .lt 13, 3) := by decide +kernel
theorem dJ2_getChar_3b067_18 : decode cJ2_getChar_3b067 18 = .ok (.new 52, 3) := by decide +kernel
theorem dJ2_getChar_3b067_21 : decode cJ2_getChar_3b067 21 = .ok (.dup, 1) := by decide +kernel
theorem dJ2_getChar_3b067_22 : decode cJ2_getChar_3b067 22 = .ok (.ldc 54, 2) := by decide +kernel
theorem dJ2_getChar_3b067_24 : decode cJ2_getChar_3b067 24 = .ok (.invokespecial 56, 3) := by decide +kernel
theorem dJ2_getChar_3b067_27 : decode cJ2_getChar_3b067 27 = .ok (.athrow, 1) := by decide +kernel
theorem dJ2_getChar_3b067_28 : decode cJ2_getChar_3b067 28 = .ok (.iload_n 1, 1) := by decide +kernel
theorem dJ2_getChar_3b067_29 : decode cJ2_getChar_3b067 29 = .ok (.iconst 1, 1) := by decide +kernel
theorem dJ2_getChar_3b067_30 : decode cJ2_getChar_3b067 30 = .ok (.ishl, 1) := by decide +kernel
theorem dJ2_getChar_3b067_31 : decode cJ2_getChar_3b067 31 = .ok (.istore_n 1, 1) := by decide +kernel
theorem dJ2_getChar_3b067_32 : decode cJ2_getChar_3b067 32 = .ok (.aload_n 0, 1) := by decide +kernel
theorem dJ2_getChar_3b067_33 : decode cJ2_getChar_3b067 33 = .ok (.iload_n 1, 1) := by decide +kernel
theorem dJ2_getChar_3b067_34 : decode cJ2_getChar_3b067 34 = .ok (.iinc 1 1, 3) := by decide +kernel
theorem dJ2_getChar_3b067_37 : decode cJ2_getChar_3b067 37 = .ok (.baload, 1) := by decide +kernel
theorem dJ2_getChar_3b067_38 : decode cJ2_getChar_3b067 38 = .ok (.sipush 255, 3) := by decide +kernel
theorem dJ2_getChar_3b067_41 : decode cJ2_getChar_3b067 41 = .ok (.iand, 1) := by decide +kernel
theorem dJ2_getChar_3b067_42 : decode cJ2_getChar_3b067 42 = .ok (.getstatic 59, 3) := by decide +kernel
theorem dJ2_getChar_3b067_45 : decode cJ2_getChar_3b067 45 = .ok (.ishl, 1) := by decide +kernel
theorem dJ2_getChar_3b067_46 : decode cJ2_getChar_3b067 46 = .ok (.aload_n 0, 1) := by decide +kernel
theorem dJ2_getChar_3b067_47 : decode cJ2_getChar_3b067 47 = .ok (.iload_n 1, 1) := by decide +kernel
theorem dJ2_getChar_3b067_48 : decode cJ2_getChar_3b067 48 = .ok (.baload, 1) := by decide +kernel
theorem dJ2_getChar_3b067_49 : decode cJ2_getChar_3b067 49 = .ok (.sipush 255, 3) := by decide +kernel
theorem dJ2_getChar_3b067_52 : decode cJ2_getChar_3b067 52 = .ok (.iand, 1) := by decide +kernel
theorem dJ2_getChar_3b067_53 : decode cJ2_getChar_3b067 53 = .ok (.getstatic 63, 3) := by decide +kernel
theorem dJ2_getChar_3b067_56 : decode cJ2_getChar_3b067 56 = .ok (.ishl, 1) := by decide +kernel
theorem dJ2_getChar_3b067_57 : decode cJ2_getChar_3b067 57 = .ok (.ior, 1) := by decide +kernel
theorem dJ2_getChar_3b067_58 : decode cJ2_getChar_3b067 58 = .ok (.i2c, 1) := by decide +kernel
theorem dJ2_getChar_3b067_59 : decode cJ2_getChar_3b067 59 = .ok (.ireturn, 1) := by decide +kernel
theorem dJ2_length_9d52b_0 : decode cJ2_length_9d52b 0 = .ok (.aload_n 0, 1) := by decide +kernel
theorem dJ2_length_9d52b_1 : decode cJ2_length_9d52b 1 = .ok (.arraylength, 1) := by decide +kernel
theorem dJ2_length_9d52b_2 : decode cJ2_length_9d52b 2 = .ok (.iconst 1, 1) := by decide +kernel
theorem dJ2_length_9d52b_3 : decode cJ2_length_9d52b 3 = .ok (.ishr, 1) := by decide +kernel
theorem dJ2_length_9d52b_4 : decode cJ2_length_9d52b 4 = .ok (.ireturn, 1) := by decide +kernel
theorem dJ2_charAt_3b067_0 : decode cJ2_charAt_3b067 0 = .ok (.iload_n 1, 1) := by decide +kernel
theorem dJ2_charAt_3b067_1 : decode cJ2_charAt_3b067 1 = .ok (.aload_n 0, 1) := by decide +kernel
theorem dJ2_charAt_3b067_2 : decode cJ2_charAt_3b067 2 = .ok (.invokestatic 67, 3) := by decide +kernel
theorem dJ2_charAt_3b067_5 : decode cJ2_charAt_3b067 5 = .ok (.aload_n 0, 1) := by decide +kernel
theorem dJ2_charAt_3b067_6 : decode cJ2_charAt_3b067 6 = .ok (.iload_n 1, 1) := by decide +kernel
theorem dJ2_charAt_3b067_7 : decode cJ2_charAt_3b067 7 = .ok (.invokestatic 71, 3) := by decide +kernel
theorem dJ2_charAt_3b067_10 : decode cJ2_charAt_3b067 10 = .ok (.ireturn, 1) := by decide +kernel
theorem dJ2_checkIndex_2214a_0 : decode cJ2_checkIndex_2214a 0 = .ok (.iload_n 0, 1) := by decide +kernel
theorem dJ2_checkIndex_2214a_1 : decode cJ2_checkIndex_2214a 1 = .ok (.aload_n 1, 1) := by decide +kernel
theorem dJ2_checkIndex_2214a_2 : decode cJ2_checkIndex_2214a 2 = .ok (.invokestatic 48, 3) := by decide +kernel
theorem dJ2_checkIndex_2214a_5 : decode cJ2_checkIndex_2214a 5 = .ok (.invokestatic 414, 3) := by decide +kernel
theorem dJ2_checkIndex_2214a_8 : decode cJ2_checkIndex_2214a 8 = .ok (.return_, 1) := by decide +kernel
theorem dJ7_fill_d0a16_0 : decode cJ7_fill_d0a16 0 = .ok (.iconst 0, 1) := by decide +kernel
theorem dJ7_fill_d0a16_1 : decode cJ7_fill_d0a16 1 = .ok (.istore_n 3, 1) := by decide +kernel
theorem dJ7_fill_d0a16_2 : decode cJ7_fill_d0a16 2 = .ok (.aload_n 0, 1) := by decide +kernel
theorem dJ7_fill_d0a16_3 : decode cJ7_fill_d0a16 3 = .ok (.arraylength, 1) := by decide +kernel
theorem dJ7_fill_d0a16_4 : decode cJ7_fill_d0a16 4 = .ok (.istore 4, 2) := by decide +kernel
theorem dJ7_fill_d0a16_6 : decode cJ7_fill_d0a16 6 = .ok (.iload_n 3, 1) := by decide +kernel
theorem dJ7_fill_d0a16_7 : decode cJ7_fill_d0a16 7 = .ok (.iload 4, 2) := by decide +kernel
theorem dJ7_fill_d0a16_9 : decode cJ7_fill_d0a16 9 = .ok (.if_icmp .ge 13, 3) := by decide +kernel
theorem dJ7_fill_d0a16_12 : decode cJ7_fill_d0a16 12 = .ok (.aload_n 0, 1) := by decide +kernel
theorem dJ7_fill_d0a16_13 : decode cJ7_fill_d0a16 13 = .ok (.iload_n 3, 1) := by decide +kernel
theorem dJ7_fill_d0a16_14 : decode cJ7_fill_d0a16 14 = .ok (.lload_n 1, 1) := by decide +kernel
theorem dJ7_fill_d0a16_15 : decode cJ7_fill_d0a16 15 = .ok (.lastore, 1) := by decide +kernel
theorem dJ7_fill_d0a16_16 : decode cJ7_fill_d0a16 16 = .ok (.iinc 3 1, 3) := by decide +kernel
theorem dJ7_fill_d0a16_19 : decode cJ7_fill_d0a16 19 = .ok (.goto (-13), 3) := by decide +kernel
theorem dJ7_fill_d0a16_22 : decode cJ7_fill_d0a16 22 = .ok (.return_, 1) := by decide +kernel
theorem dJ7_fill_53178_0 : decode cJ7_fill_53178 0 = .ok (.iconst 0, 1) := by decide +kernel
theorem dJ7_fill_53178_1 : decode cJ7_fill_53178 1 = .ok (.istore_n 2, 1) := by decide +kernel
theorem dJ7_fill_53178_2 : decode cJ7_fill_53178 2 = .ok (.aload_n 0, 1) := by decide +kernel
theorem dJ7_fill_53178_3 : decode cJ7_fill_53178 3 = .ok (.arraylength, 1) := by decide +kernel
theorem dJ7_fill_53178_4 : decode cJ7_fill_53178 4 = .ok (.istore_n 3, 1) := by decide +kernel
theorem dJ7_fill_53178_5 : decode cJ7_fill_53178 5 = .ok (.iload_n 2, 1) := by decide +kernel
theorem dJ7_fill_53178_6 : decode cJ7_fill_53178 6 = .ok (.iload_n 3, 1) := by decide +kernel
theorem dJ7_fill_53178_7 : decode cJ7_fill_53178 7 = .ok (.if_icmp .ge 13, 3) := by decide +kernel
theorem dJ7_fill_53178_10 : decode cJ7_fill_53178 10 = .ok (.aload_n 0, 1) := by decide +kernel
theorem dJ7_fill_53178_11 : decode cJ7_fill_53178 11 = .ok (.iload_n 2, 1) := by decide +kernel
theorem dJ7_fill_53178_12 : decode cJ7_fill_53178 12 = .ok (.iload_n 1, 1) := by decide +kernel
theorem dJ7_fill_53178_13 : decode cJ7_fill_53178 13 = .ok (.iastore, 1) := by decide +kernel
theorem dJ7_fill_53178_14 : decode cJ7_fill_53178 14 = .ok (.iinc 2 1, 3) := by decide +kernel
theorem dJ7_fill_53178_17 : decode cJ7_fill_53178 17 = .ok (.goto (-12), 3) := by decide +kernel
theorem dJ7_fill_53178_20 : decode cJ7_fill_53178 20 = .ok (.return_, 1) := by decide +kernel
theorem dJ3_checkIndex_8e157_0 : decode cJ3_checkIndex_8e157 0 = .ok (.iload_n 0, 1) := by decide +kernel
theorem dJ3_checkIndex_8e157_1 : decode cJ3_checkIndex_8e157 1 = .ok (.ifCond .lt 8, 3) := by decide +kernel
theorem dJ3_checkIndex_8e157_4 : decode cJ3_checkIndex_8e157 4 = .ok (.iload_n 0, 1) := by decide +kernel
theorem dJ3_checkIndex_8e157_5 : decode cJ3_checkIndex_8e157 5 = .ok (.iload_n 1, 1) := by decide +kernel
theorem dJ3_checkIndex_8e157_6 : decode cJ3_checkIndex_8e157 6 = .ok (.if_icmp .lt 10, 3) := by decide +kernel
theorem dJ3_checkIndex_8e157_9 : decode cJ3_checkIndex_8e157 9 = .ok (.aload_n 2, 1) := by decide +kernel
theorem dJ3_checkIndex_8e157_10 : decode cJ3_checkIndex_8e157 10 = .ok (.iload_n 0, 1) := by decide +kernel
theorem dJ3_checkIndex_8e157_11 : decode cJ3_checkIndex_8e157 11 = .ok (.iload_n 1, 1) := by decide +kernel
theorem dJ3_checkIndex_8e157_12 : decode cJ3_checkIndex_8e157 12 = .ok (.invokestatic 95, 3) := by decide +kernel
theorem dJ3_checkIndex_8e157_15 : decode cJ3_checkIndex_8e157 15 = .ok (.athrow, 1) := by decide +kernel
theorem dJ3_checkIndex_8e157_16 : decode cJ3_checkIndex_8e157 16 = .ok (.iload_n 0, 1) := by decide +kernel
theorem dJ3_checkIndex_8e157_17 : decode cJ3_checkIndex_8e157 17 = .ok (.ireturn, 1) := by decide +kernel
