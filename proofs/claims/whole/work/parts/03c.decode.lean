theorem dX11_close_59 : decode cX11_close 59 = .ok (.dup, 1) := by decide +kernel
theorem dX11_close_60 : decode cX11_close 60 = .ok (.getfield 118, 3) := by decide +kernel
theorem dX11_close_63 : decode cX11_close 63 = .ok (.iconst 1, 1) := by decide +kernel
theorem dX11_close_64 : decode cX11_close 64 = .ok (.iadd, 1) := by decide +kernel
theorem dX11_close_65 : decode cX11_close 65 = .ok (.putfield 118, 3) := by decide +kernel
theorem dX11_close_68 : decode cX11_close 68 = .ok (.aload_n 0, 1) := by decide +kernel
theorem dX11_close_69 : decode cX11_close 69 = .ok (.getfield 35, 3) := by decide +kernel
theorem dX11_close_72 : decode cX11_close 72 = .ok (.iconst 0, 1) := by decide +kernel
theorem dX11_close_73 : decode cX11_close 73 = .ok (.putfield 121, 3) := by decide +kernel
theorem dX11_close_76 : decode cX11_close 76 = .ok (.iload_n 1, 1) := by decide +kernel
theorem dX11_close_77 : decode cX11_close 77 = .ok (.ireturn, 1) := by decide +kernel
theorem dX11_undo_0 : decode cX11_undo 0 = .ok (.aload_n 0, 1) := by decide +kernel
theorem dX11_undo_1 : decode cX11_undo 1 = .ok (.getfield 35, 3) := by decide +kernel
theorem dX11_undo_4 : decode cX11_undo 4 = .ok (.invokevirtual 202, 3) := by decide +kernel
theorem dX11_undo_7 : decode cX11_undo 7 = .ok (.ireturn, 1) := by decide +kernel
theorem dX11_club_0 : decode cX11_club 0 = .ok (.aload_n 0, 1) := by decide +kernel
theorem dX11_club_1 : decode cX11_club 1 = .ok (.getfield 19, 3) := by decide +kernel
theorem dX11_club_4 : decode cX11_club 4 = .ok (.iload_n 1, 1) := by decide +kernel
theorem dX11_club_5 : decode cX11_club 5 = .ok (.invokevirtual 173, 3) := by decide +kernel
theorem dX11_club_8 : decode cX11_club 8 = .ok (.ifCond .ne 6, 3) := by decide +kernel
theorem dX11_club_11 : decode cX11_club 11 = .ok (.bipush (-3), 2) := by decide +kernel
theorem dX11_club_13 : decode cX11_club 13 = .ok (.ireturn, 1) := by decide +kernel
theorem dX11_club_14 : decode cX11_club 14 = .ok (.iload_n 2, 1) := by decide +kernel
theorem dX11_club_15 : decode cX11_club 15 = .ok (.tableswitch 125 0 7 #[45, 55, 65, 75, 85, 95, 105, 115], 45) := by decide +kernel
theorem dX11_club_60 : decode cX11_club 60 = .ok (.aload_n 0, 1) := by decide +kernel
theorem dX11_club_61 : decode cX11_club 61 = .ok (.getfield 19, 3) := by decide +kernel
theorem dX11_club_64 : decode cX11_club 64 = .ok (.getfield 205, 3) := by decide +kernel
theorem dX11_club_67 : decode cX11_club 67 = .ok (.iload_n 1, 1) := by decide +kernel
theorem dX11_club_68 : decode cX11_club 68 = .ok (.iaload, 1) := by decide +kernel
theorem dX11_club_69 : decode cX11_club 69 = .ok (.ireturn, 1) := by decide +kernel
theorem dX11_club_70 : decode cX11_club 70 = .ok (.aload_n 0, 1) := by decide +kernel
theorem dX11_club_71 : decode cX11_club 71 = .ok (.getfield 19, 3) := by decide +kernel
theorem dX11_club_74 : decode cX11_club 74 = .ok (.getfield 208, 3) := by decide +kernel
theorem dX11_club_77 : decode cX11_club 77 = .ok (.iload_n 1, 1) := by decide +kernel
theorem dX11_club_78 : decode cX11_club 78 = .ok (.iaload, 1) := by decide +kernel
theorem dX11_club_79 : decode cX11_club 79 = .ok (.ireturn, 1) := by decide +kernel
theorem dX11_club_80 : decode cX11_club 80 = .ok (.aload_n 0, 1) := by decide +kernel
theorem dX11_club_81 : decode cX11_club 81 = .ok (.getfield 19, 3) := by decide +kernel
theorem dX11_club_84 : decode cX11_club 84 = .ok (.getfield 179, 3) := by decide +kernel
theorem dX11_club_87 : decode cX11_club 87 = .ok (.iload_n 1, 1) := by decide +kernel
theorem dX11_club_88 : decode cX11_club 88 = .ok (.iaload, 1) := by decide +kernel
theorem dX11_club_89 : decode cX11_club 89 = .ok (.ireturn, 1) := by decide +kernel
theorem dX11_club_90 : decode cX11_club 90 = .ok (.aload_n 0, 1) := by decide +kernel
theorem dX11_club_91 : decode cX11_club 91 = .ok (.getfield 19, 3) := by decide +kernel
theorem dX11_club_94 : decode cX11_club 94 = .ok (.getfield 176, 3) := by decide +kernel
theorem dX11_club_97 : decode cX11_club 97 = .ok (.iload_n 1, 1) := by decide +kernel
theorem dX11_club_98 : decode cX11_club 98 = .ok (.iaload, 1) := by decide +kernel
theorem dX11_club_99 : decode cX11_club 99 = .ok (.ireturn, 1) := by decide +kernel
theorem dX11_club_100 : decode cX11_club 100 = .ok (.aload_n 0, 1) := by decide +kernel
theorem dX11_club_101 : decode cX11_club 101 = .ok (.getfield 19, 3) := by decide +kernel
theorem dX11_club_104 : decode cX11_club 104 = .ok (.getfield 211, 3) := by decide +kernel
theorem dX11_club_107 : decode cX11_club 107 = .ok (.iload_n 1, 1) := by decide +kernel
theorem dX11_club_108 : decode cX11_club 108 = .ok (.iaload, 1) := by decide +kernel
theorem dX11_club_109 : decode cX11_club 109 = .ok (.ireturn, 1) := by decide +kernel
theorem dX11_club_110 : decode cX11_club 110 = .ok (.aload_n 0, 1) := by decide +kernel
theorem dX11_club_111 : decode cX11_club 111 = .ok (.getfield 26, 3) := by decide +kernel
theorem dX11_club_114 : decode cX11_club 114 = .ok (.getfield 163, 3) := by decide +kernel
theorem dX11_club_117 : decode cX11_club 117 = .ok (.iload_n 1, 1) := by decide +kernel
theorem dX11_club_118 : decode cX11_club 118 = .ok (.iaload, 1) := by decide +kernel
theorem dX11_club_119 : decode cX11_club 119 = .ok (.ireturn, 1) := by decide +kernel
theorem dX11_club_120 : decode cX11_club 120 = .ok (.aload_n 0, 1) := by decide +kernel
theorem dX11_club_121 : decode cX11_club 121 = .ok (.getfield 26, 3) := by decide +kernel
theorem dX11_club_124 : decode cX11_club 124 = .ok (.getfield 167, 3) := by decide +kernel
theorem dX11_club_127 : decode cX11_club 127 = .ok (.iload_n 1, 1) := by decide +kernel
theorem dX11_club_128 : decode cX11_club 128 = .ok (.iaload, 1) := by decide +kernel
theorem dX11_club_129 : decode cX11_club 129 = .ok (.ireturn, 1) := by decide +kernel
theorem dX11_club_130 : decode cX11_club 130 = .ok (.aload_n 0, 1) := by decide +kernel
theorem dX11_club_131 : decode cX11_club 131 = .ok (.getfield 26, 3) := by decide +kernel
theorem dX11_club_134 : decode cX11_club 134 = .ok (.getfield 170, 3) := by decide +kernel
theorem dX11_club_137 : decode cX11_club 137 = .ok (.iload_n 1, 1) := by decide +kernel
theorem dX11_club_138 : decode cX11_club 138 = .ok (.iaload, 1) := by decide +kernel
theorem dX11_club_139 : decode cX11_club 139 = .ok (.ireturn, 1) := by decide +kernel
theorem dX11_club_140 : decode cX11_club 140 = .ok (.bipush (-3), 2) := by decide +kernel
theorem dX11_club_142 : decode cX11_club 142 = .ok (.ireturn, 1) := by decide +kernel
theorem dX11_of_0 : decode cX11_of 0 = .ok (.aload_n 0, 1) := by decide +kernel
theorem dX11_of_1 : decode cX11_of 1 = .ok (.getfield 19, 3) := by decide +kernel
theorem dX11_of_4 : decode cX11_of 4 = .ok (.iload_n 1, 1) := by decide +kernel
theorem dX11_of_5 : decode cX11_of 5 = .ok (.invokevirtual 159, 3) := by decide +kernel
theorem dX11_of_8 : decode cX11_of 8 = .ok (.ifCond .ne 5, 3) := by decide +kernel
theorem dX11_of_11 : decode cX11_of 11 = .ok (.iconst (-1), 1) := by decide +kernel
theorem dX11_of_12 : decode cX11_of 12 = .ok (.ireturn, 1) := by decide +kernel
theorem dX11_of_13 : decode cX11_of 13 = .ok (.iload_n 2, 1) := by decide +kernel
theorem dX11_of_14 : decode cX11_of 14 = .ok (.tableswitch 174 0 7 #[46, 56, 66, 76, 86, 96, 122, 147], 46) := by decide +kernel
theorem dX11_of_60 : decode cX11_of 60 = .ok (.aload_n 0, 1) := by decide +kernel
theorem dX11_of_61 : decode cX11_of 61 = .ok (.getfield 26, 3) := by decide +kernel
theorem dX11_of_64 : decode cX11_of 64 = .ok (.getfield 214, 3) := by decide +kernel
theorem dX11_of_67 : decode cX11_of 67 = .ok (.iload_n 1, 1) := by decide +kernel
theorem dX11_of_68 : decode cX11_of 68 = .ok (.iaload, 1) := by decide +kernel
theorem dX11_of_69 : decode cX11_of 69 = .ok (.ireturn, 1) := by decide +kernel
theorem dX11_of_70 : decode cX11_of 70 = .ok (.aload_n 0, 1) := by decide +kernel
theorem dX11_of_71 : decode cX11_of 71 = .ok (.getfield 26, 3) := by decide +kernel
theorem dX11_of_74 : decode cX11_of 74 = .ok (.getfield 217, 3) := by decide +kernel
theorem dX11_of_77 : decode cX11_of 77 = .ok (.iload_n 1, 1) := by decide +kernel
theorem dX11_of_78 : decode cX11_of 78 = .ok (.iaload, 1) := by decide +kernel
theorem dX11_of_79 : decode cX11_of 79 = .ok (.ireturn, 1) := by decide +kernel
theorem dX11_of_80 : decode cX11_of 80 = .ok (.aload_n 0, 1) := by decide +kernel
theorem dX11_of_81 : decode cX11_of 81 = .ok (.getfield 26, 3) := by decide +kernel
theorem dX11_of_84 : decode cX11_of 84 = .ok (.getfield 220, 3) := by decide +kernel
theorem dX11_of_87 : decode cX11_of 87 = .ok (.iload_n 1, 1) := by decide +kernel
theorem dX11_of_88 : decode cX11_of 88 = .ok (.iaload, 1) := by decide +kernel
theorem dX11_of_89 : decode cX11_of 89 = .ok (.ireturn, 1) := by decide +kernel
theorem dX11_of_90 : decode cX11_of 90 = .ok (.aload_n 0, 1) := by decide +kernel
theorem dX11_of_91 : decode cX11_of 91 = .ok (.getfield 26, 3) := by decide +kernel
theorem dX11_of_94 : decode cX11_of 94 = .ok (.getfield 223, 3) := by decide +kernel
theorem dX11_of_97 : decode cX11_of 97 = .ok (.iload_n 1, 1) := by decide +kernel
theorem dX11_of_98 : decode cX11_of 98 = .ok (.iaload, 1) := by decide +kernel
theorem dX11_of_99 : decode cX11_of 99 = .ok (.ireturn, 1) := by decide +kernel
theorem dX11_of_100 : decode cX11_of 100 = .ok (.aload_n 0, 1) := by decide +kernel
theorem dX11_of_101 : decode cX11_of 101 = .ok (.getfield 26, 3) := by decide +kernel
theorem dX11_of_104 : decode cX11_of 104 = .ok (.getfield 226, 3) := by decide +kernel
theorem dX11_of_107 : decode cX11_of 107 = .ok (.iload_n 1, 1) := by decide +kernel
theorem dX11_of_108 : decode cX11_of 108 = .ok (.iaload, 1) := by decide +kernel
theorem dX11_of_109 : decode cX11_of 109 = .ok (.ireturn, 1) := by decide +kernel
theorem dX11_of_110 : decode cX11_of 110 = .ok (.aload_n 0, 1) := by decide +kernel
theorem dX11_of_111 : decode cX11_of 111 = .ok (.getfield 60, 3) := by decide +kernel
theorem dX11_of_114 : decode cX11_of 114 = .ok (.aload_n 0, 1) := by decide +kernel
theorem dX11_of_115 : decode cX11_of 115 = .ok (.getfield 19, 3) := by decide +kernel
theorem dX11_of_118 : decode cX11_of 118 = .ok (.getfield 176, 3) := by decide +kernel
theorem dX11_of_121 : decode cX11_of 121 = .ok (.iload_n 1, 1) := by decide +kernel
theorem dX11_of_122 : decode cX11_of 122 = .ok (.iaload, 1) := by decide +kernel
theorem dX11_of_123 : decode cX11_of 123 = .ok (.invokevirtual 229, 3) := by decide +kernel
theorem dX11_of_126 : decode cX11_of 126 = .ok (.aload_n 0, 1) := by decide +kernel
theorem dX11_of_127 : decode cX11_of 127 = .ok (.getfield 60, 3) := by decide +kernel
theorem dX11_of_130 : decode cX11_of 130 = .ok (.getfield 232, 3) := by decide +kernel
theorem dX11_of_133 : decode cX11_of 133 = .ok (.iload_n 1, 1) := by decide +kernel
theorem dX11_of_134 : decode cX11_of 134 = .ok (.iaload, 1) := by decide +kernel
theorem dX11_of_135 : decode cX11_of 135 = .ok (.ireturn, 1) := by decide +kernel
theorem dX11_of_136 : decode cX11_of 136 = .ok (.aload_n 0, 1) := by decide +kernel
theorem dX11_of_137 : decode cX11_of 137 = .ok (.getfield 60, 3) := by decide +kernel
theorem dX11_of_140 : decode cX11_of 140 = .ok (.aload_n 0, 1) := by decide +kernel
theorem dX11_of_141 : decode cX11_of 141 = .ok (.getfield 19, 3) := by decide +kernel
theorem dX11_of_144 : decode cX11_of 144 = .ok (.getfield 176, 3) := by decide +kernel
theorem dX11_of_147 : decode cX11_of 147 = .ok (.iload_n 1, 1) := by decide +kernel
theorem dX11_of_148 : decode cX11_of 148 = .ok (.iaload, 1) := by decide +kernel
theorem dX11_of_149 : decode cX11_of 149 = .ok (.invokevirtual 229, 3) := by decide +kernel
theorem dX11_of_152 : decode cX11_of 152 = .ok (.aload_n 0, 1) := by decide +kernel
theorem dX11_of_153 : decode cX11_of 153 = .ok (.getfield 60, 3) := by decide +kernel
theorem dX11_of_156 : decode cX11_of 156 = .ok (.iload_n 1, 1) := by decide +kernel
theorem dX11_of_157 : decode cX11_of 157 = .ok (.invokevirtual 235, 3) := by decide +kernel
theorem dX11_of_160 : decode cX11_of 160 = .ok (.ireturn, 1) := by decide +kernel
theorem dX11_of_161 : decode cX11_of 161 = .ok (.aload_n 0, 1) := by decide +kernel
theorem dX11_of_162 : decode cX11_of 162 = .ok (.getfield 69, 3) := by decide +kernel
theorem dX11_of_165 : decode cX11_of 165 = .ok (.iload_n 1, 1) := by decide +kernel
theorem dX11_of_166 : decode cX11_of 166 = .ok (.aload_n 0, 1) := by decide +kernel
theorem dX11_of_167 : decode cX11_of 167 = .ok (.getfield 19, 3) := by decide +kernel
theorem dX11_of_170 : decode cX11_of 170 = .ok (.getfield 176, 3) := by decide +kernel
theorem dX11_of_173 : decode cX11_of 173 = .ok (.iload_n 1, 1) := by decide +kernel
theorem dX11_of_174 : decode cX11_of 174 = .ok (.iaload, 1) := by decide +kernel
theorem dX11_of_175 : decode cX11_of 175 = .ok (.aload_n 0, 1) := by decide +kernel
theorem dX11_of_176 : decode cX11_of 176 = .ok (.getfield 19, 3) := by decide +kernel
theorem dX11_of_179 : decode cX11_of 179 = .ok (.getfield 211, 3) := by decide +kernel
theorem dX11_of_182 : decode cX11_of 182 = .ok (.iload_n 1, 1) := by decide +kernel
theorem dX11_of_183 : decode cX11_of 183 = .ok (.iaload, 1) := by decide +kernel
theorem dX11_of_184 : decode cX11_of 184 = .ok (.invokevirtual 239, 3) := by decide +kernel
theorem dX11_of_187 : decode cX11_of 187 = .ok (.ireturn, 1) := by decide +kernel
theorem dX11_of_188 : decode cX11_of 188 = .ok (.iconst (-1), 1) := by decide +kernel
theorem dX11_of_189 : decode cX11_of 189 = .ok (.ireturn, 1) := by decide +kernel
theorem dX11_points_0 : decode cX11_points 0 = .ok (.aload_n 0, 1) := by decide +kernel
theorem dX11_points_1 : decode cX11_points 1 = .ok (.getfield 19, 3) := by decide +kernel
theorem dX11_points_4 : decode cX11_points 4 = .ok (.iload_n 1, 1) := by decide +kernel
theorem dX11_points_5 : decode cX11_points 5 = .ok (.invokevirtual 159, 3) := by decide +kernel
theorem dX11_points_8 : decode cX11_points 8 = .ok (.ifCond .eq 14, 3) := by decide +kernel
theorem dX11_points_11 : decode cX11_points 11 = .ok (.aload_n 0, 1) := by decide +kernel
theorem dX11_points_12 : decode cX11_points 12 = .ok (.getfield 26, 3) := by decide +kernel
theorem dX11_points_15 : decode cX11_points 15 = .ok (.iload_n 1, 1) := by decide +kernel
theorem dX11_points_16 : decode cX11_points 16 = .ok (.invokevirtual 243, 3) := by decide +kernel
theorem dX11_points_19 : decode cX11_points 19 = .ok (.goto 5, 3) := by decide +kernel
theorem dX11_points_22 : decode cX11_points 22 = .ok (.ldc 248, 2) := by decide +kernel
theorem dX11_points_24 : decode cX11_points 24 = .ok (.ireturn, 1) := by decide +kernel
theorem dX11_average_0 : decode cX11_average 0 = .ok (.aload_n 0, 1) := by decide +kernel
theorem dX11_average_1 : decode cX11_average 1 = .ok (.getfield 19, 3) := by decide +kernel
theorem dX11_average_4 : decode cX11_average 4 = .ok (.iload_n 1, 1) := by decide +kernel
theorem dX11_average_5 : decode cX11_average 5 = .ok (.invokevirtual 159, 3) := by decide +kernel
theorem dX11_average_8 : decode cX11_average 8 = .ok (.ifCond .ne 5, 3) := by decide +kernel
theorem dX11_average_11 : decode cX11_average 11 = .ok (.iconst (-1), 1) := by decide +kernel
theorem dX11_average_12 : decode cX11_average 12 = .ok (.ireturn, 1) := by decide +kernel
theorem dX11_average_13 : decode cX11_average 13 = .ok (.aload_n 0, 1) := by decide +kernel
theorem dX11_average_14 : decode cX11_average 14 = .ok (.getfield 26, 3) := by decide +kernel
theorem dX11_average_17 : decode cX11_average 17 = .ok (.getfield 214, 3) := by decide +kernel
theorem dX11_average_20 : decode cX11_average 20 = .ok (.iload_n 1, 1) := by decide +kernel
theorem dX11_average_21 : decode cX11_average 21 = .ok (.iaload, 1) := by decide +kernel
theorem dX11_average_22 : decode cX11_average 22 = .ok (.istore_n 2, 1) := by decide +kernel
theorem dX11_average_23 : decode cX11_average 23 = .ok (.iload_n 2, 1) := by decide +kernel
theorem dX11_average_24 : decode cX11_average 24 = .ok (.iconst 1, 1) := by decide +kernel
theorem dX11_average_25 : decode cX11_average 25 = .ok (.if_icmp .ge 5, 3) := by decide +kernel
theorem dX11_average_28 : decode cX11_average 28 = .ok (.iconst 0, 1) := by decide +kernel
theorem dX11_average_29 : decode cX11_average 29 = .ok (.ireturn, 1) := by decide +kernel
theorem dX11_average_30 : decode cX11_average 30 = .ok (.aload_n 0, 1) := by decide +kernel
theorem dX11_average_31 : decode cX11_average 31 = .ok (.getfield 26, 3) := by decide +kernel
theorem dX11_average_34 : decode cX11_average 34 = .ok (.iload_n 1, 1) := by decide +kernel
theorem dX11_average_35 : decode cX11_average 35 = .ok (.invokevirtual 243, 3) := by decide +kernel
theorem dX11_average_38 : decode cX11_average 38 = .ok (.i2f, 1) := by decide +kernel
theorem dX11_average_39 : decode cX11_average 39 = .ok (.iload_n 2, 1) := by decide +kernel
theorem dX11_average_40 : decode cX11_average 40 = .ok (.i2f, 1) := by decide +kernel
theorem dX11_average_41 : decode cX11_average 41 = .ok (.fdiv, 1) := by decide +kernel
theorem dX11_average_42 : decode cX11_average 42 = .ok (.invokestatic 249, 3) := by decide +kernel
theorem dX11_average_45 : decode cX11_average 45 = .ok (.ireturn, 1) := by decide +kernel
theorem dX11_ranked_0 : decode cX11_ranked 0 = .ok (.aload_n 0, 1) := by decide +kernel
theorem dX11_ranked_1 : decode cX11_ranked 1 = .ok (.getfield 19, 3) := by decide +kernel
theorem dX11_ranked_4 : decode cX11_ranked 4 = .ok (.iload_n 1, 1) := by decide +kernel
theorem dX11_ranked_5 : decode cX11_ranked 5 = .ok (.iload_n 2, 1) := by decide +kernel
theorem dX11_ranked_6 : decode cX11_ranked 6 = .ok (.invokevirtual 255, 3) := by decide +kernel
theorem dX11_ranked_9 : decode cX11_ranked 9 = .ok (.ifCond .ne 5, 3) := by decide +kernel
theorem dX11_ranked_12 : decode cX11_ranked 12 = .ok (.iconst (-1), 1) := by decide +kernel
theorem dX11_ranked_13 : decode cX11_ranked 13 = .ok (.ireturn, 1) := by decide +kernel
theorem dX11_ranked_14 : decode cX11_ranked 14 = .ok (.aload_n 0, 1) := by decide +kernel
theorem dX11_ranked_15 : decode cX11_ranked 15 = .ok (.getfield 60, 3) := by decide +kernel
theorem dX11_ranked_18 : decode cX11_ranked 18 = .ok (.iload_n 1, 1) := by decide +kernel
theorem dX11_ranked_19 : decode cX11_ranked 19 = .ok (.invokevirtual 229, 3) := by decide +kernel
theorem dX11_ranked_22 : decode cX11_ranked 22 = .ok (.aload_n 0, 1) := by decide +kernel
theorem dX11_ranked_23 : decode cX11_ranked 23 = .ok (.getfield 60, 3) := by decide +kernel
theorem dX11_ranked_26 : decode cX11_ranked 26 = .ok (.iload_n 2, 1) := by decide +kernel
theorem dX11_ranked_27 : decode cX11_ranked 27 = .ok (.iload_n 3, 1) := by decide +kernel
theorem dX11_ranked_28 : decode cX11_ranked 28 = .ok (.invokevirtual 259, 3) := by decide +kernel
theorem dX11_ranked_31 : decode cX11_ranked 31 = .ok (.ireturn, 1) := by decide +kernel
theorem dX11_order_0 : decode cX11_order 0 = .ok (.aload_n 0, 1) := by decide +kernel
theorem dX11_order_1 : decode cX11_order 1 = .ok (.getfield 19, 3) := by decide +kernel
theorem dX11_order_4 : decode cX11_order 4 = .ok (.iload_n 1, 1) := by decide +kernel
theorem dX11_order_5 : decode cX11_order 5 = .ok (.invokevirtual 263, 3) := by decide +kernel
theorem dX11_order_8 : decode cX11_order 8 = .ok (.ifCond .ne 5, 3) := by decide +kernel
theorem dX11_order_11 : decode cX11_order 11 = .ok (.iconst (-1), 1) := by decide +kernel
theorem dX11_order_12 : decode cX11_order 12 = .ok (.ireturn, 1) := by decide +kernel
theorem dX11_order_13 : decode cX11_order 13 = .ok (.aload_n 0, 1) := by decide +kernel
theorem dX11_order_14 : decode cX11_order 14 = .ok (.getfield 60, 3) := by decide +kernel
theorem dX11_order_17 : decode cX11_order 17 = .ok (.iload_n 1, 1) := by decide +kernel
theorem dX11_order_18 : decode cX11_order 18 = .ok (.invokevirtual 229, 3) := by decide +kernel
theorem dX11_order_21 : decode cX11_order 21 = .ok (.iload_n 2, 1) := by decide +kernel
theorem dX11_order_22 : decode cX11_order 22 = .ok (.ifCond .lt 26, 3) := by decide +kernel
theorem dX11_order_25 : decode cX11_order 25 = .ok (.iload_n 2, 1) := by decide +kernel
theorem dX11_order_26 : decode cX11_order 26 = .ok (.aload_n 0, 1) := by decide +kernel
theorem dX11_order_27 : decode cX11_order 27 = .ok (.getfield 60, 3) := by decide +kernel
theorem dX11_order_30 : decode cX11_order 30 = .ok (.getfield 266, 3) := by decide +kernel
theorem dX11_order_33 : decode cX11_order 33 = .ok (.if_icmp .ge 15, 3) := by decide +kernel
theorem dX11_order_36 : decode cX11_order 36 = .ok (.aload_n 0, 1) := by decide +kernel
theorem dX11_order_37 : decode cX11_order 37 = .ok (.getfield 60, 3) := by decide +kernel
theorem dX11_order_40 : decode cX11_order 40 = .ok (.getfield 267, 3) := by decide +kernel
theorem dX11_order_43 : decode cX11_order 43 = .ok (.iload_n 2, 1) := by decide +kernel
theorem dX11_order_44 : decode cX11_order 44 = .ok (.iaload, 1) := by decide +kernel
theorem dX11_order_45 : decode cX11_order 45 = .ok (.goto 4, 3) := by decide +kernel
theorem dX11_order_48 : decode cX11_order 48 = .ok (.iconst (-1), 1) := by decide +kernel
theorem dX11_order_49 : decode cX11_order 49 = .ok (.ireturn, 1) := by decide +kernel
theorem dX11_level_0 : decode cX11_level 0 = .ok (.aload_n 0, 1) := by decide +kernel
theorem dX11_level_1 : decode cX11_level 1 = .ok (.getfield 19, 3) := by decide +kernel
theorem dX11_level_4 : decode cX11_level 4 = .ok (.iload_n 1, 1) := by decide +kernel
theorem dX11_level_5 : decode cX11_level 5 = .ok (.invokevirtual 263, 3) := by decide +kernel
theorem dX11_level_8 : decode cX11_level 8 = .ok (.ifCond .ne 5, 3) := by decide +kernel
theorem dX11_level_11 : decode cX11_level 11 = .ok (.iconst (-1), 1) := by decide +kernel
theorem dX11_level_12 : decode cX11_level 12 = .ok (.ireturn, 1) := by decide +kernel
theorem dX11_level_13 : decode cX11_level 13 = .ok (.iload_n 2, 1) := by decide +kernel
theorem dX11_level_14 : decode cX11_level 14 = .ok (.tableswitch 131 0 7 #[46, 56, 66, 76, 86, 95, 104, 113], 46) := by decide +kernel
theorem dX11_level_60 : decode cX11_level 60 = .ok (.aload_n 0, 1) := by decide +kernel
theorem dX11_level_61 : decode cX11_level 61 = .ok (.getfield 19, 3) := by decide +kernel
theorem dX11_level_64 : decode cX11_level 64 = .ok (.getfield 270, 3) := by decide +kernel
theorem dX11_level_67 : decode cX11_level 67 = .ok (.iload_n 1, 1) := by decide +kernel
theorem dX11_level_68 : decode cX11_level 68 = .ok (.iaload, 1) := by decide +kernel
theorem dX11_level_69 : decode cX11_level 69 = .ok (.ireturn, 1) := by decide +kernel
theorem dX11_level_70 : decode cX11_level 70 = .ok (.aload_n 0, 1) := by decide +kernel
theorem dX11_level_71 : decode cX11_level 71 = .ok (.getfield 19, 3) := by decide +kernel
theorem dX11_level_74 : decode cX11_level 74 = .ok (.getfield 273, 3) := by decide +kernel
theorem dX11_level_77 : decode cX11_level 77 = .ok (.iload_n 1, 1) := by decide +kernel
theorem dX11_level_78 : decode cX11_level 78 = .ok (.iaload, 1) := by decide +kernel
theorem dX11_level_79 : decode cX11_level 79 = .ok (.ireturn, 1) := by decide +kernel
theorem dX11_level_80 : decode cX11_level 80 = .ok (.aload_n 0, 1) := by decide +kernel
theorem dX11_level_81 : decode cX11_level 81 = .ok (.getfield 19, 3) := by decide +kernel
theorem dX11_level_84 : decode cX11_level 84 = .ok (.getfield 276, 3) := by decide +kernel
theorem dX11_level_87 : decode cX11_level 87 = .ok (.iload_n 1, 1) := by decide +kernel
theorem dX11_level_88 : decode cX11_level 88 = .ok (.iaload, 1) := by decide +kernel
theorem dX11_level_89 : decode cX11_level 89 = .ok (.ireturn, 1) := by decide +kernel
theorem dX11_level_90 : decode cX11_level 90 = .ok (.aload_n 0, 1) := by decide +kernel
theorem dX11_level_91 : decode cX11_level 91 = .ok (.getfield 19, 3) := by decide +kernel
theorem dX11_level_94 : decode cX11_level 94 = .ok (.getfield 279, 3) := by decide +kernel
theorem dX11_level_97 : decode cX11_level 97 = .ok (.iload_n 1, 1) := by decide +kernel
theorem dX11_level_98 : decode cX11_level 98 = .ok (.iaload, 1) := by decide +kernel
theorem dX11_level_99 : decode cX11_level 99 = .ok (.ireturn, 1) := by decide +kernel
theorem dX11_level_100 : decode cX11_level 100 = .ok (.aload_n 0, 1) := by decide +kernel
theorem dX11_level_101 : decode cX11_level 101 = .ok (.getfield 87, 3) := by decide +kernel
theorem dX11_level_104 : decode cX11_level 104 = .ok (.iload_n 1, 1) := by decide +kernel
theorem dX11_level_105 : decode cX11_level 105 = .ok (.invokevirtual 282, 3) := by decide +kernel
theorem dX11_level_108 : decode cX11_level 108 = .ok (.ireturn, 1) := by decide +kernel
theorem dX11_level_109 : decode cX11_level 109 = .ok (.aload_n 0, 1) := by decide +kernel
theorem dX11_level_110 : decode cX11_level 110 = .ok (.getfield 87, 3) := by decide +kernel
theorem dX11_level_113 : decode cX11_level 113 = .ok (.iload_n 1, 1) := by decide +kernel
theorem dX11_level_114 : decode cX11_level 114 = .ok (.invokevirtual 285, 3) := by decide +kernel
theorem dX11_level_117 : decode cX11_level 117 = .ok (.ireturn, 1) := by decide +kernel
theorem dX11_level_118 : decode cX11_level 118 = .ok (.aload_n 0, 1) := by decide +kernel
theorem dX11_level_119 : decode cX11_level 119 = .ok (.getfield 69, 3) := by decide +kernel
theorem dX11_level_122 : decode cX11_level 122 = .ok (.iload_n 1, 1) := by decide +kernel
theorem dX11_level_123 : decode cX11_level 123 = .ok (.invokevirtual 288, 3) := by decide +kernel
theorem dX11_level_126 : decode cX11_level 126 = .ok (.ireturn, 1) := by decide +kernel
theorem dX11_level_127 : decode cX11_level 127 = .ok (.aload_n 0, 1) := by decide +kernel
theorem dX11_level_128 : decode cX11_level 128 = .ok (.getfield 78, 3) := by decide +kernel
theorem dX11_level_131 : decode cX11_level 131 = .ok (.iload_n 1, 1) := by decide +kernel
theorem dX11_level_132 : decode cX11_level 132 = .ok (.invokevirtual 291, 3) := by decide +kernel
theorem dX11_level_135 : decode cX11_level 135 = .ok (.aload_n 0, 1) := by decide +kernel
theorem dX11_level_136 : decode cX11_level 136 = .ok (.getfield 78, 3) := by decide +kernel
theorem dX11_level_139 : decode cX11_level 139 = .ok (.getfield 294, 3) := by decide +kernel
theorem dX11_level_142 : decode cX11_level 142 = .ok (.iload_n 1, 1) := by decide +kernel
theorem dX11_level_143 : decode cX11_level 143 = .ok (.iaload, 1) := by decide +kernel
theorem dX11_level_144 : decode cX11_level 144 = .ok (.ireturn, 1) := by decide +kernel
theorem dX11_level_145 : decode cX11_level 145 = .ok (.iconst (-1), 1) := by decide +kernel
theorem dX11_level_146 : decode cX11_level 146 = .ok (.ireturn, 1) := by decide +kernel
theorem dX11_moves_0 : decode cX11_moves 0 = .ok (.aload_n 0, 1) := by decide +kernel
theorem dX11_moves_1 : decode cX11_moves 1 = .ok (.getfield 19, 3) := by decide +kernel
theorem dX11_moves_4 : decode cX11_moves 4 = .ok (.iload_n 1, 1) := by decide +kernel
theorem dX11_moves_5 : decode cX11_moves 5 = .ok (.invokevirtual 263, 3) := by decide +kernel
theorem dX11_moves_8 : decode cX11_moves 8 = .ok (.ifCond .eq 22, 3) := by decide +kernel
theorem dX11_moves_11 : decode cX11_moves 11 = .ok (.iload_n 2, 1) := by decide +kernel
theorem dX11_moves_12 : decode cX11_moves 12 = .ok (.ifCond .lt 18, 3) := by decide +kernel
theorem dX11_moves_15 : decode cX11_moves 15 = .ok (.iload_n 2, 1) := by decide +kernel
theorem dX11_moves_16 : decode cX11_moves 16 = .ok (.iconst 3, 1) := by decide +kernel
theorem dX11_moves_17 : decode cX11_moves 17 = .ok (.if_icmp .gt 13, 3) := by decide +kernel
theorem dX11_moves_20 : decode cX11_moves 20 = .ok (.aload_n 0, 1) := by decide +kernel
theorem dX11_moves_21 : decode cX11_moves 21 = .ok (.getfield 87, 3) := by decide +kernel
theorem dX11_moves_24 : decode cX11_moves 24 = .ok (.invokevirtual 182, 3) := by decide +kernel
theorem dX11_moves_27 : decode cX11_moves 27 = .ok (.ifCond .ne 5, 3) := by decide +kernel
theorem dX11_moves_30 : decode cX11_moves 30 = .ok (.iconst (-1), 1) := by decide +kernel
theorem dX11_moves_31 : decode cX11_moves 31 = .ok (.ireturn, 1) := by decide +kernel
theorem dX11_moves_32 : decode cX11_moves 32 = .ok (.aload_n 0, 1) := by decide +kernel
theorem dX11_moves_33 : decode cX11_moves 33 = .ok (.getfield 87, 3) := by decide +kernel
theorem dX11_moves_36 : decode cX11_moves 36 = .ok (.iload_n 1, 1) := by decide +kernel
theorem dX11_moves_37 : decode cX11_moves 37 = .ok (.iload_n 2, 1) := by decide +kernel
theorem dX11_moves_38 : decode cX11_moves 38 = .ok (.invokevirtual 297, 3) := by decide +kernel
theorem dX11_moves_41 : decode cX11_moves 41 = .ok (.istore 4, 2) := by decide +kernel
theorem dX11_moves_43 : decode cX11_moves 43 = .ok (.iload_n 3, 1) := by decide +kernel
theorem dX11_moves_44 : decode cX11_moves 44 = .ok (.iconst (-1), 1) := by decide +kernel
theorem dX11_moves_45 : decode cX11_moves 45 = .ok (.if_icmp .ne 6, 3) := by decide +kernel
theorem dX11_moves_48 : decode cX11_moves 48 = .ok (.iload 4, 2) := by decide +kernel
theorem dX11_moves_50 : decode cX11_moves 50 = .ok (.ireturn, 1) := by decide +kernel
theorem dX11_moves_51 : decode cX11_moves 51 = .ok (.iload_n 3, 1) := by decide +kernel
theorem dX11_moves_52 : decode cX11_moves 52 = .ok (.ifCond .lt 22, 3) := by decide +kernel
theorem dX11_moves_55 : decode cX11_moves 55 = .ok (.iload_n 3, 1) := by decide +kernel
theorem dX11_moves_56 : decode cX11_moves 56 = .ok (.iload 4, 2) := by decide +kernel
theorem dX11_moves_58 : decode cX11_moves 58 = .ok (.if_icmp .ge 16, 3) := by decide +kernel
theorem dX11_moves_61 : decode cX11_moves 61 = .ok (.aload_n 0, 1) := by decide +kernel
theorem dX11_moves_62 : decode cX11_moves 62 = .ok (.getfield 87, 3) := by decide +kernel
theorem dX11_moves_65 : decode cX11_moves 65 = .ok (.iload_n 1, 1) := by decide +kernel
theorem dX11_moves_66 : decode cX11_moves 66 = .ok (.iload_n 2, 1) := by decide +kernel
theorem dX11_moves_67 : decode cX11_moves 67 = .ok (.iload_n 3, 1) := by decide +kernel
theorem dX11_moves_68 : decode cX11_moves 68 = .ok (.invokevirtual 300, 3) := by decide +kernel
theorem dX11_moves_71 : decode cX11_moves 71 = .ok (.goto 4, 3) := by decide +kernel
theorem dX11_moves_74 : decode cX11_moves 74 = .ok (.iconst (-1), 1) := by decide +kernel
theorem dX11_moves_75 : decode cX11_moves 75 = .ok (.ireturn, 1) := by decide +kernel
theorem dX11_would_0 : decode cX11_would 0 = .ok (.aload_n 0, 1) := by decide +kernel
theorem dX11_would_1 : decode cX11_would 1 = .ok (.getfield 19, 3) := by decide +kernel
theorem dX11_would_4 : decode cX11_would 4 = .ok (.iload_n 1, 1) := by decide +kernel
theorem dX11_would_5 : decode cX11_would 5 = .ok (.invokevirtual 173, 3) := by decide +kernel
theorem dX11_would_8 : decode cX11_would 8 = .ok (.ifCond .eq 25, 3) := by decide +kernel
theorem dX11_would_11 : decode cX11_would 11 = .ok (.aload_n 0, 1) := by decide +kernel
theorem dX11_would_12 : decode cX11_would 12 = .ok (.getfield 87, 3) := by decide +kernel
theorem dX11_would_15 : decode cX11_would 15 = .ok (.invokevirtual 182, 3) := by decide +kernel
theorem dX11_would_18 : decode cX11_would 18 = .ok (.ifCond .eq 15, 3) := by decide +kernel
theorem dX11_would_21 : decode cX11_would 21 = .ok (.aload_n 0, 1) := by decide +kernel
theorem dX11_would_22 : decode cX11_would 22 = .ok (.getfield 87, 3) := by decide +kernel
theorem dX11_would_25 : decode cX11_would 25 = .ok (.getfield 189, 3) := by decide +kernel
theorem dX11_would_28 : decode cX11_would 28 = .ok (.iload_n 1, 1) := by decide +kernel
theorem dX11_would_29 : decode cX11_would 29 = .ok (.iaload, 1) := by decide +kernel
theorem dX11_would_30 : decode cX11_would 30 = .ok (.goto 5, 3) := by decide +kernel
theorem dX11_would_33 : decode cX11_would 33 = .ok (.bipush (-3), 2) := by decide +kernel
theorem dX11_would_35 : decode cX11_would 35 = .ok (.ireturn, 1) := by decide +kernel
theorem dX11_needs_0 : decode cX11_needs 0 = .ok (.aload_n 0, 1) := by decide +kernel
theorem dX11_needs_1 : decode cX11_needs 1 = .ok (.getfield 19, 3) := by decide +kernel
theorem dX11_needs_4 : decode cX11_needs 4 = .ok (.iload_n 1, 1) := by decide +kernel
theorem dX11_needs_5 : decode cX11_needs 5 = .ok (.invokevirtual 159, 3) := by decide +kernel
theorem dX11_needs_8 : decode cX11_needs 8 = .ok (.ifCond .eq 16, 3) := by decide +kernel
theorem dX11_needs_11 : decode cX11_needs 11 = .ok (.aload_n 0, 1) := by decide +kernel
theorem dX11_needs_12 : decode cX11_needs 12 = .ok (.getfield 19, 3) := by decide +kernel
theorem dX11_needs_15 : decode cX11_needs 15 = .ok (.getfield 176, 3) := by decide +kernel
theorem dX11_needs_18 : decode cX11_needs 18 = .ok (.iload_n 1, 1) := by decide +kernel
theorem dX11_needs_19 : decode cX11_needs 19 = .ok (.iaload, 1) := by decide +kernel
theorem dX11_needs_20 : decode cX11_needs 20 = .ok (.iconst 1, 1) := by decide +kernel
theorem dX11_needs_21 : decode cX11_needs 21 = .ok (.if_icmp .ge 5, 3) := by decide +kernel
theorem dX11_needs_24 : decode cX11_needs 24 = .ok (.iconst (-1), 1) := by decide +kernel
theorem dX11_needs_25 : decode cX11_needs 25 = .ok (.ireturn, 1) := by decide +kernel
theorem dX11_needs_26 : decode cX11_needs 26 = .ok (.aload_n 0, 1) := by decide +kernel
theorem dX11_needs_27 : decode cX11_needs 27 = .ok (.getfield 87, 3) := by decide +kernel
theorem dX11_needs_30 : decode cX11_needs 30 = .ok (.iload_n 1, 1) := by decide +kernel
theorem dX11_needs_31 : decode cX11_needs 31 = .ok (.iconst 0, 1) := by decide +kernel
theorem dX11_needs_32 : decode cX11_needs 32 = .ok (.invokevirtual 303, 3) := by decide +kernel
theorem dX11_needs_35 : decode cX11_needs 35 = .ok (.ifCond .eq 5, 3) := by decide +kernel
theorem dX11_needs_38 : decode cX11_needs 38 = .ok (.iconst 0, 1) := by decide +kernel
theorem dX11_needs_39 : decode cX11_needs 39 = .ok (.ireturn, 1) := by decide +kernel
theorem dX11_needs_40 : decode cX11_needs 40 = .ok (.aload_n 0, 1) := by decide +kernel
theorem dX11_needs_41 : decode cX11_needs 41 = .ok (.getfield 19, 3) := by decide +kernel
theorem dX11_needs_44 : decode cX11_needs 44 = .ok (.getfield 279, 3) := by decide +kernel
theorem dX11_needs_47 : decode cX11_needs 47 = .ok (.aload_n 0, 1) := by decide +kernel
theorem dX11_needs_48 : decode cX11_needs 48 = .ok (.getfield 19, 3) := by decide +kernel
theorem dX11_needs_51 : decode cX11_needs 51 = .ok (.getfield 176, 3) := by decide +kernel
theorem dX11_needs_54 : decode cX11_needs 54 = .ok (.iload_n 1, 1) := by decide +kernel
theorem dX11_needs_55 : decode cX11_needs 55 = .ok (.iaload, 1) := by decide +kernel
theorem dX11_needs_56 : decode cX11_needs 56 = .ok (.iconst 1, 1) := by decide +kernel
theorem dX11_needs_57 : decode cX11_needs 57 = .ok (.isub, 1) := by decide +kernel
theorem dX11_needs_58 : decode cX11_needs 58 = .ok (.iaload, 1) := by decide +kernel
theorem dX11_needs_59 : decode cX11_needs 59 = .ok (.istore_n 2, 1) := by decide +kernel
theorem dX11_needs_60 : decode cX11_needs 60 = .ok (.aload_n 0, 1) := by decide +kernel
theorem dX11_needs_61 : decode cX11_needs 61 = .ok (.getfield 87, 3) := by decide +kernel
theorem dX11_needs_64 : decode cX11_needs 64 = .ok (.iload_n 1, 1) := by decide +kernel
theorem dX11_needs_65 : decode cX11_needs 65 = .ok (.iload_n 2, 1) := by decide +kernel
theorem dX11_needs_66 : decode cX11_needs 66 = .ok (.invokevirtual 303, 3) := by decide +kernel
theorem dX11_needs_69 : decode cX11_needs 69 = .ok (.ifCond .eq 7, 3) := by decide +kernel
theorem dX11_needs_72 : decode cX11_needs 72 = .ok (.iload_n 2, 1) := by decide +kernel
theorem dX11_needs_73 : decode cX11_needs 73 = .ok (.goto 4, 3) := by decide +kernel
theorem dX11_needs_76 : decode cX11_needs 76 = .ok (.iconst (-1), 1) := by decide +kernel
theorem dX11_needs_77 : decode cX11_needs 77 = .ok (.ireturn, 1) := by decide +kernel
theorem dX11_parted_0 : decode cX11_parted 0 = .ok (.aload_n 0, 1) := by decide +kernel
theorem dX11_parted_1 : decode cX11_parted 1 = .ok (.getfield 19, 3) := by decide +kernel
theorem dX11_parted_4 : decode cX11_parted 4 = .ok (.iload_n 1, 1) := by decide +kernel
theorem dX11_parted_5 : decode cX11_parted 5 = .ok (.invokevirtual 159, 3) := by decide +kernel
theorem dX11_parted_8 : decode cX11_parted 8 = .ok (.ifCond .ne 5, 3) := by decide +kernel
theorem dX11_parted_11 : decode cX11_parted 11 = .ok (.iconst (-1), 1) := by decide +kernel
theorem dX11_parted_12 : decode cX11_parted 12 = .ok (.ireturn, 1) := by decide +kernel
theorem dX11_parted_13 : decode cX11_parted 13 = .ok (.aload_n 0, 1) := by decide +kernel
theorem dX11_parted_14 : decode cX11_parted 14 = .ok (.getfield 78, 3) := by decide +kernel
theorem dX11_parted_17 : decode cX11_parted 17 = .ok (.aload_n 0, 1) := by decide +kernel
theorem dX11_parted_18 : decode cX11_parted 18 = .ok (.getfield 19, 3) := by decide +kernel
theorem dX11_parted_21 : decode cX11_parted 21 = .ok (.getfield 176, 3) := by decide +kernel
theorem dX11_parted_24 : decode cX11_parted 24 = .ok (.iload_n 1, 1) := by decide +kernel
theorem dX11_parted_25 : decode cX11_parted 25 = .ok (.iaload, 1) := by decide +kernel
theorem dX11_parted_26 : decode cX11_parted 26 = .ok (.invokevirtual 291, 3) := by decide +kernel
theorem dX11_parted_29 : decode cX11_parted 29 = .ok (.aload_n 0, 1) := by decide +kernel
theorem dX11_parted_30 : decode cX11_parted 30 = .ok (.getfield 78, 3) := by decide +kernel
theorem dX11_parted_33 : decode cX11_parted 33 = .ok (.getfield 306, 3) := by decide +kernel
theorem dX11_parted_36 : decode cX11_parted 36 = .ok (.iload_n 1, 1) := by decide +kernel
theorem dX11_parted_37 : decode cX11_parted 37 = .ok (.iaload, 1) := by decide +kernel
theorem dX11_parted_38 : decode cX11_parted 38 = .ok (.ireturn, 1) := by decide +kernel
theorem dX11_swap_0 : decode cX11_swap 0 = .ok (.aload_n 0, 1) := by decide +kernel
theorem dX11_swap_1 : decode cX11_swap 1 = .ok (.getfield 19, 3) := by decide +kernel
theorem dX11_swap_4 : decode cX11_swap 4 = .ok (.iload_n 1, 1) := by decide +kernel
theorem dX11_swap_5 : decode cX11_swap 5 = .ok (.invokevirtual 263, 3) := by decide +kernel
theorem dX11_swap_8 : decode cX11_swap 8 = .ok (.ifCond .eq 23, 3) := by decide +kernel
theorem dX11_swap_11 : decode cX11_swap 11 = .ok (.iload_n 2, 1) := by decide +kernel
theorem dX11_swap_12 : decode cX11_swap 12 = .ok (.ifCond .lt 19, 3) := by decide +kernel
theorem dX11_swap_15 : decode cX11_swap 15 = .ok (.iload_n 2, 1) := by decide +kernel
theorem dX11_swap_16 : decode cX11_swap 16 = .ok (.iconst 2, 1) := by decide +kernel
theorem dX11_swap_17 : decode cX11_swap 17 = .ok (.if_icmp .gt 14, 3) := by decide +kernel
theorem dX11_swap_20 : decode cX11_swap 20 = .ok (.aload_n 0, 1) := by decide +kernel
theorem dX11_swap_21 : decode cX11_swap 21 = .ok (.getfield 69, 3) := by decide +kernel
theorem dX11_swap_24 : decode cX11_swap 24 = .ok (.iload_n 1, 1) := by decide +kernel
theorem dX11_swap_25 : decode cX11_swap 25 = .ok (.invokevirtual 309, 3) := by decide +kernel
theorem dX11_swap_28 : decode cX11_swap 28 = .ok (.ifCond .ne 5, 3) := by decide +kernel
theorem dX11_swap_31 : decode cX11_swap 31 = .ok (.iconst (-1), 1) := by decide +kernel
theorem dX11_swap_32 : decode cX11_swap 32 = .ok (.ireturn, 1) := by decide +kernel
theorem dX11_swap_33 : decode cX11_swap 33 = .ok (.iload_n 2, 1) := by decide +kernel
theorem dX11_swap_34 : decode cX11_swap 34 = .ok (.iconst 2, 1) := by decide +kernel
theorem dX11_swap_35 : decode cX11_swap 35 = .ok (.if_icmp .ne 11, 3) := by decide +kernel
theorem dX11_swap_38 : decode cX11_swap 38 = .ok (.aload_n 0, 1) := by decide +kernel
theorem dX11_swap_39 : decode cX11_swap 39 = .ok (.getfield 69, 3) := by decide +kernel
theorem dX11_swap_42 : decode cX11_swap 42 = .ok (.getfield 312, 3) := by decide +kernel
theorem dX11_swap_45 : decode cX11_swap 45 = .ok (.ireturn, 1) := by decide +kernel
theorem dX11_swap_46 : decode cX11_swap 46 = .ok (.iload_n 2, 1) := by decide +kernel
theorem dX11_swap_47 : decode cX11_swap 47 = .ok (.ifCond .ne 13, 3) := by decide +kernel
theorem dX11_swap_50 : decode cX11_swap 50 = .ok (.aload_n 0, 1) := by decide +kernel
theorem dX11_swap_51 : decode cX11_swap 51 = .ok (.getfield 69, 3) := by decide +kernel
theorem dX11_swap_54 : decode cX11_swap 54 = .ok (.getfield 315, 3) := by decide +kernel
theorem dX11_swap_57 : decode cX11_swap 57 = .ok (.goto 10, 3) := by decide +kernel
theorem dX11_swap_60 : decode cX11_swap 60 = .ok (.aload_n 0, 1) := by decide +kernel
theorem dX11_swap_61 : decode cX11_swap 61 = .ok (.getfield 69, 3) := by decide +kernel
theorem dX11_swap_64 : decode cX11_swap 64 = .ok (.getfield 318, 3) := by decide +kernel
theorem dX11_swap_67 : decode cX11_swap 67 = .ok (.ireturn, 1) := by decide +kernel
theorem dX11_middle_0 : decode cX11_middle 0 = .ok (.aload_n 0, 1) := by decide +kernel
theorem dX11_middle_1 : decode cX11_middle 1 = .ok (.getfield 19, 3) := by decide +kernel
theorem dX11_middle_4 : decode cX11_middle 4 = .ok (.iload_n 1, 1) := by decide +kernel
theorem dX11_middle_5 : decode cX11_middle 5 = .ok (.invokevirtual 263, 3) := by decide +kernel
theorem dX11_middle_8 : decode cX11_middle 8 = .ok (.ifCond .eq 14, 3) := by decide +kernel
theorem dX11_middle_11 : decode cX11_middle 11 = .ok (.aload_n 0, 1) := by decide +kernel
theorem dX11_middle_12 : decode cX11_middle 12 = .ok (.getfield 69, 3) := by decide +kernel
theorem dX11_middle_15 : decode cX11_middle 15 = .ok (.iload_n 1, 1) := by decide +kernel
theorem dX11_middle_16 : decode cX11_middle 16 = .ok (.invokevirtual 321, 3) := by decide +kernel
theorem dX11_middle_19 : decode cX11_middle 19 = .ok (.goto 4, 3) := by decide +kernel
theorem dX11_middle_22 : decode cX11_middle 22 = .ok (.iconst (-1), 1) := by decide +kernel
theorem dX11_middle_23 : decode cX11_middle 23 = .ok (.ireturn, 1) := by decide +kernel
theorem dX11_rest_0 : decode cX11_rest 0 = .ok (.aload_n 0, 1) := by decide +kernel
theorem dX11_rest_1 : decode cX11_rest 1 = .ok (.getfield 19, 3) := by decide +kernel
theorem dX11_rest_4 : decode cX11_rest 4 = .ok (.iload_n 1, 1) := by decide +kernel
theorem dX11_rest_5 : decode cX11_rest 5 = .ok (.iload_n 2, 1) := by decide +kernel
theorem dX11_rest_6 : decode cX11_rest 6 = .ok (.invokevirtual 255, 3) := by decide +kernel
theorem dX11_rest_9 : decode cX11_rest 9 = .ok (.ifCond .ne 7, 3) := by decide +kernel
theorem dX11_rest_12 : decode cX11_rest 12 = .ok (.ldc2_w 324, 3) := by decide +kernel
theorem dX11_rest_15 : decode cX11_rest 15 = .ok (.lreturn, 1) := by decide +kernel
theorem dX11_rest_16 : decode cX11_rest 16 = .ok (.aload_n 0, 1) := by decide +kernel
theorem dX11_rest_17 : decode cX11_rest 17 = .ok (.getfield 26, 3) := by decide +kernel
theorem dX11_rest_20 : decode cX11_rest 20 = .ok (.aload_n 0, 1) := by decide +kernel
theorem dX11_rest_21 : decode cX11_rest 21 = .ok (.getfield 19, 3) := by decide +kernel
theorem dX11_rest_24 : decode cX11_rest 24 = .ok (.iload_n 1, 1) := by decide +kernel
theorem dX11_rest_25 : decode cX11_rest 25 = .ok (.iload_n 2, 1) := by decide +kernel
theorem dX11_rest_26 : decode cX11_rest 26 = .ok (.invokevirtual 326, 3) := by decide +kernel
theorem dX11_rest_29 : decode cX11_rest 29 = .ok (.iconst 2, 1) := by decide +kernel
theorem dX11_rest_30 : decode cX11_rest 30 = .ok (.idiv, 1) := by decide +kernel
theorem dX11_rest_31 : decode cX11_rest 31 = .ok (.istore_n 3, 1) := by decide +kernel
theorem dX11_rest_32 : decode cX11_rest 32 = .ok (.iload_n 3, 1) := by decide +kernel
theorem dX11_rest_33 : decode cX11_rest 33 = .ok (.iconst 1, 1) := by decide +kernel
theorem dX11_rest_34 : decode cX11_rest 34 = .ok (.if_icmp .ge 7, 3) := by decide +kernel
theorem dX11_rest_37 : decode cX11_rest 37 = .ok (.ldc2_w 324, 3) := by decide +kernel
theorem dX11_rest_40 : decode cX11_rest 40 = .ok (.lreturn, 1) := by decide +kernel
theorem dX11_rest_41 : decode cX11_rest 41 = .ok (.aload_n 0, 1) := by decide +kernel
theorem dX11_rest_42 : decode cX11_rest 42 = .ok (.getfield 69, 3) := by decide +kernel
theorem dX11_rest_45 : decode cX11_rest 45 = .ok (.iload_n 1, 1) := by decide +kernel
theorem dX11_rest_46 : decode cX11_rest 46 = .ok (.iload_n 2, 1) := by decide +kernel
theorem dX11_rest_47 : decode cX11_rest 47 = .ok (.invokevirtual 330, 3) := by decide +kernel
theorem dX11_rest_50 : decode cX11_rest 50 = .ok (.i2d, 1) := by decide +kernel
theorem dX11_rest_51 : decode cX11_rest 51 = .ok (.iload_n 3, 1) := by decide +kernel
theorem dX11_rest_52 : decode cX11_rest 52 = .ok (.i2d, 1) := by decide +kernel
theorem dX11_rest_53 : decode cX11_rest 53 = .ok (.ddiv, 1) := by decide +kernel
theorem dX11_rest_54 : decode cX11_rest 54 = .ok (.dstore 4, 2) := by decide +kernel
theorem dX11_rest_56 : decode cX11_rest 56 = .ok (.dload 4, 2) := by decide +kernel
theorem dX11_rest_58 : decode cX11_rest 58 = .ok (.dload 4, 2) := by decide +kernel
theorem dX11_rest_60 : decode cX11_rest 60 = .ok (.d2l, 1) := by decide +kernel
theorem dX11_rest_61 : decode cX11_rest 61 = .ok (.l2d, 1) := by decide +kernel
theorem dX11_rest_62 : decode cX11_rest 62 = .ok (.dsub, 1) := by decide +kernel
theorem dX11_rest_63 : decode cX11_rest 63 = .ok (.invokestatic 333, 3) := by decide +kernel
theorem dX11_rest_66 : decode cX11_rest 66 = .ok (.lreturn, 1) := by decide +kernel
theorem dX11_match_0 : decode cX11_match 0 = .ok (.aload_n 0, 1) := by decide +kernel
theorem dX11_match_1 : decode cX11_match 1 = .ok (.getfield 19, 3) := by decide +kernel
theorem dX11_match_4 : decode cX11_match 4 = .ok (.iload_n 1, 1) := by decide +kernel
theorem dX11_match_5 : decode cX11_match 5 = .ok (.invokevirtual 173, 3) := by decide +kernel
theorem dX11_match_8 : decode cX11_match 8 = .ok (.ifCond .eq 14, 3) := by decide +kernel
theorem dX11_match_11 : decode cX11_match 11 = .ok (.aload_n 0, 1) := by decide +kernel
theorem dX11_match_12 : decode cX11_match 12 = .ok (.getfield 19, 3) := by decide +kernel
theorem dX11_match_15 : decode cX11_match 15 = .ok (.iload_n 2, 1) := by decide +kernel
theorem dX11_match_16 : decode cX11_match 16 = .ok (.invokevirtual 173, 3) := by decide +kernel
theorem dX11_match_19 : decode cX11_match 19 = .ok (.ifCond .ne 5, 3) := by decide +kernel
theorem dX11_match_22 : decode cX11_match 22 = .ok (.iconst (-1), 1) := by decide +kernel
theorem dX11_match_23 : decode cX11_match 23 = .ok (.ireturn, 1) := by decide +kernel
theorem dX11_match_24 : decode cX11_match 24 = .ok (.iload_n 3, 1) := by decide +kernel
theorem dX11_match_25 : decode cX11_match 25 = .ok (.lookupswitch 47 #[(0, 27), (1, 37)], 27) := by decide +kernel
theorem dX11_match_52 : decode cX11_match 52 = .ok (.aload_n 0, 1) := by decide +kernel
theorem dX11_match_53 : decode cX11_match 53 = .ok (.getfield 26, 3) := by decide +kernel
theorem dX11_match_56 : decode cX11_match 56 = .ok (.iload_n 1, 1) := by decide +kernel
theorem dX11_match_57 : decode cX11_match 57 = .ok (.iload_n 2, 1) := by decide +kernel
theorem dX11_match_58 : decode cX11_match 58 = .ok (.invokevirtual 337, 3) := by decide +kernel
theorem dX11_match_61 : decode cX11_match 61 = .ok (.ireturn, 1) := by decide +kernel
theorem dX11_match_62 : decode cX11_match 62 = .ok (.aload_n 0, 1) := by decide +kernel
theorem dX11_match_63 : decode cX11_match 63 = .ok (.getfield 26, 3) := by decide +kernel
theorem dX11_match_66 : decode cX11_match 66 = .ok (.iload_n 1, 1) := by decide +kernel
theorem dX11_match_67 : decode cX11_match 67 = .ok (.iload_n 2, 1) := by decide +kernel
theorem dX11_match_68 : decode cX11_match 68 = .ok (.invokevirtual 340, 3) := by decide +kernel
theorem dX11_match_71 : decode cX11_match 71 = .ok (.ireturn, 1) := by decide +kernel
theorem dX11_match_72 : decode cX11_match 72 = .ok (.iconst (-1), 1) := by decide +kernel
theorem dX11_match_73 : decode cX11_match 73 = .ok (.ireturn, 1) := by decide +kernel
theorem dX11_above_0 : decode cX11_above 0 = .ok (.aload_n 0, 1) := by decide +kernel
theorem dX11_above_1 : decode cX11_above 1 = .ok (.getfield 19, 3) := by decide +kernel
theorem dX11_above_4 : decode cX11_above 4 = .ok (.iload_n 1, 1) := by decide +kernel
theorem dX11_above_5 : decode cX11_above 5 = .ok (.invokevirtual 159, 3) := by decide +kernel
theorem dX11_above_8 : decode cX11_above 8 = .ok (.ifCond .eq 14, 3) := by decide +kernel
theorem dX11_above_11 : decode cX11_above 11 = .ok (.aload_n 0, 1) := by decide +kernel
theorem dX11_above_12 : decode cX11_above 12 = .ok (.getfield 60, 3) := by decide +kernel
theorem dX11_above_15 : decode cX11_above 15 = .ok (.iload_n 1, 1) := by decide +kernel
theorem dX11_above_16 : decode cX11_above 16 = .ok (.invokevirtual 343, 3) := by decide +kernel
theorem dX11_above_19 : decode cX11_above 19 = .ok (.goto 4, 3) := by decide +kernel
theorem dX11_above_22 : decode cX11_above 22 = .ok (.iconst (-1), 1) := by decide +kernel
theorem dX11_above_23 : decode cX11_above 23 = .ok (.ireturn, 1) := by decide +kernel
theorem dX11_journeys_0 : decode cX11_journeys 0 = .ok (.aload_n 0, 1) := by decide +kernel
theorem dX11_journeys_1 : decode cX11_journeys 1 = .ok (.getfield 19, 3) := by decide +kernel
theorem dX11_journeys_4 : decode cX11_journeys 4 = .ok (.iload_n 1, 1) := by decide +kernel
theorem dX11_journeys_5 : decode cX11_journeys 5 = .ok (.invokevirtual 159, 3) := by decide +kernel
theorem dX11_journeys_8 : decode cX11_journeys 8 = .ok (.ifCond .ne 5, 3) := by decide +kernel
theorem dX11_journeys_11 : decode cX11_journeys 11 = .ok (.iconst (-1), 1) := by decide +kernel
theorem dX11_journeys_12 : decode cX11_journeys 12 = .ok (.ireturn, 1) := by decide +kernel
theorem dX11_journeys_13 : decode cX11_journeys 13 = .ok (.iconst 0, 1) := by decide +kernel
theorem dX11_journeys_14 : decode cX11_journeys 14 = .ok (.istore_n 2, 1) := by decide +kernel
theorem dX11_journeys_15 : decode cX11_journeys 15 = .ok (.iconst 0, 1) := by decide +kernel
theorem dX11_journeys_16 : decode cX11_journeys 16 = .ok (.istore_n 3, 1) := by decide +kernel
theorem dX11_journeys_17 : decode cX11_journeys 17 = .ok (.iload_n 3, 1) := by decide +kernel
theorem dX11_journeys_18 : decode cX11_journeys 18 = .ok (.aload_n 0, 1) := by decide +kernel
theorem dX11_journeys_19 : decode cX11_journeys 19 = .ok (.getfield 26, 3) := by decide +kernel
theorem dX11_journeys_22 : decode cX11_journeys 22 = .ok (.getfield 127, 3) := by decide +kernel
theorem dX11_journeys_25 : decode cX11_journeys 25 = .ok (.if_icmp .ge 44, 3) := by decide +kernel
theorem dX11_journeys_28 : decode cX11_journeys 28 = .ok (.aload_n 0, 1) := by decide +kernel
theorem dX11_journeys_29 : decode cX11_journeys 29 = .ok (.getfield 26, 3) := by decide +kernel
theorem dX11_journeys_32 : decode cX11_journeys 32 = .ok (.getfield 346, 3) := by decide +kernel
theorem dX11_journeys_35 : decode cX11_journeys 35 = .ok (.iload_n 3, 1) := by decide +kernel
theorem dX11_journeys_36 : decode cX11_journeys 36 = .ok (.iaload, 1) := by decide +kernel
theorem dX11_journeys_37 : decode cX11_journeys 37 = .ok (.iload_n 1, 1) := by decide +kernel
theorem dX11_journeys_38 : decode cX11_journeys 38 = .ok (.if_icmp .ne 25, 3) := by decide +kernel
theorem dX11_journeys_41 : decode cX11_journeys 41 = .ok (.iload_n 2, 1) := by decide +kernel
theorem dX11_journeys_42 : decode cX11_journeys 42 = .ok (.iconst 2, 1) := by decide +kernel
theorem dX11_journeys_43 : decode cX11_journeys 43 = .ok (.aload_n 0, 1) := by decide +kernel
theorem dX11_journeys_44 : decode cX11_journeys 44 = .ok (.getfield 69, 3) := by decide +kernel
theorem dX11_journeys_47 : decode cX11_journeys 47 = .ok (.aload_n 0, 1) := by decide +kernel
theorem dX11_journeys_48 : decode cX11_journeys 48 = .ok (.getfield 26, 3) := by decide +kernel
theorem dX11_journeys_51 : decode cX11_journeys 51 = .ok (.getfield 349, 3) := by decide +kernel
theorem dX11_journeys_54 : decode cX11_journeys 54 = .ok (.iload_n 3, 1) := by decide +kernel
theorem dX11_journeys_55 : decode cX11_journeys 55 = .ok (.iaload, 1) := by decide +kernel
theorem dX11_journeys_56 : decode cX11_journeys 56 = .ok (.iload_n 1, 1) := by decide +kernel
theorem dX11_journeys_57 : decode cX11_journeys 57 = .ok (.invokevirtual 352, 3) := by decide +kernel
theorem dX11_journeys_60 : decode cX11_journeys 60 = .ok (.imul, 1) := by decide +kernel
theorem dX11_journeys_61 : decode cX11_journeys 61 = .ok (.iadd, 1) := by decide +kernel
theorem dX11_journeys_62 : decode cX11_journeys 62 = .ok (.istore_n 2, 1) := by decide +kernel
theorem dX11_journeys_63 : decode cX11_journeys 63 = .ok (.iinc 3 1, 3) := by decide +kernel
theorem dX11_journeys_66 : decode cX11_journeys 66 = .ok (.goto (-49), 3) := by decide +kernel
theorem dX11_journeys_69 : decode cX11_journeys 69 = .ok (.iload_n 2, 1) := by decide +kernel
theorem dX11_journeys_70 : decode cX11_journeys 70 = .ok (.ireturn, 1) := by decide +kernel
theorem dX11_nearest_0 : decode cX11_nearest 0 = .ok (.aload_n 0, 1) := by decide +kernel
theorem dX11_nearest_1 : decode cX11_nearest 1 = .ok (.getfield 19, 3) := by decide +kernel
theorem dX11_nearest_4 : decode cX11_nearest 4 = .ok (.iload_n 1, 1) := by decide +kernel
theorem dX11_nearest_5 : decode cX11_nearest 5 = .ok (.invokevirtual 159, 3) := by decide +kernel
theorem dX11_nearest_8 : decode cX11_nearest 8 = .ok (.ifCond .eq 14, 3) := by decide +kernel
theorem dX11_nearest_11 : decode cX11_nearest 11 = .ok (.aload_n 0, 1) := by decide +kernel
theorem dX11_nearest_12 : decode cX11_nearest 12 = .ok (.getfield 69, 3) := by decide +kernel
theorem dX11_nearest_15 : decode cX11_nearest 15 = .ok (.iload_n 1, 1) := by decide +kernel
theorem dX11_nearest_16 : decode cX11_nearest 16 = .ok (.invokevirtual 355, 3) := by decide +kernel
theorem dX11_nearest_19 : decode cX11_nearest 19 = .ok (.goto 4, 3) := by decide +kernel
theorem dX11_nearest_22 : decode cX11_nearest 22 = .ok (.iconst (-1), 1) := by decide +kernel
theorem dX11_nearest_23 : decode cX11_nearest 23 = .ok (.ireturn, 1) := by decide +kernel
theorem dX11_versus_0 : decode cX11_versus 0 = .ok (.aload_n 0, 1) := by decide +kernel
theorem dX11_versus_1 : decode cX11_versus 1 = .ok (.getfield 19, 3) := by decide +kernel
theorem dX11_versus_4 : decode cX11_versus 4 = .ok (.iload_n 1, 1) := by decide +kernel
theorem dX11_versus_5 : decode cX11_versus 5 = .ok (.invokevirtual 159, 3) := by decide +kernel
theorem dX11_versus_8 : decode cX11_versus 8 = .ok (.ifCond .eq 19, 3) := by decide +kernel
theorem dX11_versus_11 : decode cX11_versus 11 = .ok (.aload_n 0, 1) := by decide +kernel
theorem dX11_versus_12 : decode cX11_versus 12 = .ok (.getfield 19, 3) := by decide +kernel
theorem dX11_versus_15 : decode cX11_versus 15 = .ok (.iload_n 2, 1) := by decide +kernel
theorem dX11_versus_16 : decode cX11_versus 16 = .ok (.invokevirtual 159, 3) := by decide +kernel
theorem dX11_versus_19 : decode cX11_versus 19 = .ok (.ifCond .eq 8, 3) := by decide +kernel
theorem dX11_versus_22 : decode cX11_versus 22 = .ok (.iload_n 1, 1) := by decide +kernel
theorem dX11_versus_23 : decode cX11_versus 23 = .ok (.iload_n 2, 1) := by decide +kernel
theorem dX11_versus_24 : decode cX11_versus 24 = .ok (.if_icmp .ne 5, 3) := by decide +kernel
theorem dX11_versus_27 : decode cX11_versus 27 = .ok (.iconst (-1), 1) := by decide +kernel
theorem dX11_versus_28 : decode cX11_versus 28 = .ok (.ireturn, 1) := by decide +kernel
theorem dX11_versus_29 : decode cX11_versus 29 = .ok (.bipush 10, 2) := by decide +kernel
theorem dX11_versus_31 : decode cX11_versus 31 = .ok (.aload_n 0, 1) := by decide +kernel
theorem dX11_versus_32 : decode cX11_versus 32 = .ok (.getfield 26, 3) := by decide +kernel
theorem dX11_versus_35 : decode cX11_versus 35 = .ok (.iload_n 1, 1) := by decide +kernel
theorem dX11_versus_36 : decode cX11_versus 36 = .ok (.iload_n 2, 1) := by decide +kernel
theorem dX11_versus_37 : decode cX11_versus 37 = .ok (.invokevirtual 358, 3) := by decide +kernel
theorem dX11_versus_40 : decode cX11_versus 40 = .ok (.imul, 1) := by decide +kernel
theorem dX11_versus_41 : decode cX11_versus 41 = .ok (.aload_n 0, 1) := by decide +kernel
theorem dX11_versus_42 : decode cX11_versus 42 = .ok (.getfield 26, 3) := by decide +kernel
theorem dX11_versus_45 : decode cX11_versus 45 = .ok (.iload_n 2, 1) := by decide +kernel
theorem dX11_versus_46 : decode cX11_versus 46 = .ok (.iload_n 1, 1) := by decide +kernel
theorem dX11_versus_47 : decode cX11_versus 47 = .ok (.invokevirtual 358, 3) := by decide +kernel
theorem dX11_versus_50 : decode cX11_versus 50 = .ok (.iadd, 1) := by decide +kernel
theorem dX11_versus_51 : decode cX11_versus 51 = .ok (.ireturn, 1) := by decide +kernel
theorem dX11_strangers_0 : decode cX11_strangers 0 = .ok (.aload_n 0, 1) := by decide +kernel
theorem dX11_strangers_1 : decode cX11_strangers 1 = .ok (.getfield 19, 3) := by decide +kernel
theorem dX11_strangers_4 : decode cX11_strangers 4 = .ok (.iload_n 1, 1) := by decide +kernel
theorem dX11_strangers_5 : decode cX11_strangers 5 = .ok (.invokevirtual 263, 3) := by decide +kernel
theorem dX11_strangers_8 : decode cX11_strangers 8 = .ok (.ifCond .eq 14, 3) := by decide +kernel
theorem dX11_strangers_11 : decode cX11_strangers 11 = .ok (.aload_n 0, 1) := by decide +kernel
theorem dX11_strangers_12 : decode cX11_strangers 12 = .ok (.getfield 69, 3) := by decide +kernel
theorem dX11_strangers_15 : decode cX11_strangers 15 = .ok (.iload_n 1, 1) := by decide +kernel
theorem dX11_strangers_16 : decode cX11_strangers 16 = .ok (.invokevirtual 361, 3) := by decide +kernel
theorem dX11_strangers_19 : decode cX11_strangers 19 = .ok (.goto 4, 3) := by decide +kernel
theorem dX11_strangers_22 : decode cX11_strangers 22 = .ok (.iconst (-1), 1) := by decide +kernel
theorem dX11_strangers_23 : decode cX11_strangers 23 = .ok (.ireturn, 1) := by decide +kernel
theorem dX11_show_0 : decode cX11_show 0 = .ok (.aload_n 0, 1) := by decide +kernel
theorem dX11_show_1 : decode cX11_show 1 = .ok (.getfield 19, 3) := by decide +kernel
theorem dX11_show_4 : decode cX11_show 4 = .ok (.iload_n 1, 1) := by decide +kernel
theorem dX11_show_5 : decode cX11_show 5 = .ok (.iload_n 2, 1) := by decide +kernel
theorem dX11_show_6 : decode cX11_show 6 = .ok (.invokevirtual 255, 3) := by decide +kernel
theorem dX11_show_9 : decode cX11_show 9 = .ok (.ifCond .ne 5, 3) := by decide +kernel
theorem dX11_show_12 : decode cX11_show 12 = .ok (.iconst (-1), 1) := by decide +kernel
theorem dX11_show_13 : decode cX11_show 13 = .ok (.ireturn, 1) := by decide +kernel
theorem dX11_show_14 : decode cX11_show 14 = .ok (.aload_n 0, 1) := by decide +kernel
theorem dX11_show_15 : decode cX11_show 15 = .ok (.getfield 60, 3) := by decide +kernel
theorem dX11_show_18 : decode cX11_show 18 = .ok (.iload_n 1, 1) := by decide +kernel
theorem dX11_show_19 : decode cX11_show 19 = .ok (.invokevirtual 229, 3) := by decide +kernel
theorem dX11_show_22 : decode cX11_show 22 = .ok (.aload_n 0, 1) := by decide +kernel
theorem dX11_show_23 : decode cX11_show 23 = .ok (.getfield 60, 3) := by decide +kernel
theorem dX11_show_26 : decode cX11_show 26 = .ok (.iload_n 2, 1) := by decide +kernel
theorem dX11_show_27 : decode cX11_show 27 = .ok (.invokevirtual 364, 3) := by decide +kernel
theorem dX11_show_30 : decode cX11_show 30 = .ok (.aload_n 0, 1) := by decide +kernel
theorem dX11_show_31 : decode cX11_show 31 = .ok (.getfield 60, 3) := by decide +kernel
theorem dX11_show_34 : decode cX11_show 34 = .ok (.getfield 367, 3) := by decide +kernel
theorem dX11_show_37 : decode cX11_show 37 = .ok (.ireturn, 1) := by decide +kernel
theorem dX11_out_0 : decode cX11_out 0 = .ok (.iload_n 1, 1) := by decide +kernel
theorem dX11_out_1 : decode cX11_out 1 = .ok (.ifCond .lt 26, 3) := by decide +kernel
theorem dX11_out_4 : decode cX11_out 4 = .ok (.iload_n 1, 1) := by decide +kernel
theorem dX11_out_5 : decode cX11_out 5 = .ok (.aload_n 0, 1) := by decide +kernel
theorem dX11_out_6 : decode cX11_out 6 = .ok (.getfield 60, 3) := by decide +kernel
theorem dX11_out_9 : decode cX11_out 9 = .ok (.getfield 367, 3) := by decide +kernel
theorem dX11_out_12 : decode cX11_out 12 = .ok (.if_icmp .ge 15, 3) := by decide +kernel
theorem dX11_out_15 : decode cX11_out 15 = .ok (.aload_n 0, 1) := by decide +kernel
theorem dX11_out_16 : decode cX11_out 16 = .ok (.getfield 60, 3) := by decide +kernel
theorem dX11_out_19 : decode cX11_out 19 = .ok (.getfield 370, 3) := by decide +kernel
theorem dX11_out_22 : decode cX11_out 22 = .ok (.iload_n 1, 1) := by decide +kernel
theorem dX11_out_23 : decode cX11_out 23 = .ok (.iaload, 1) := by decide +kernel
theorem dX11_out_24 : decode cX11_out 24 = .ok (.goto 4, 3) := by decide +kernel
theorem dX11_out_27 : decode cX11_out 27 = .ok (.iconst (-1), 1) := by decide +kernel
theorem dX11_out_28 : decode cX11_out 28 = .ok (.ireturn, 1) := by decide +kernel
theorem dX11_look_0 : decode cX11_look 0 = .ok (.iload_n 1, 1) := by decide +kernel
theorem dX11_look_1 : decode cX11_look 1 = .ok (.tableswitch 114 0 7 #[47, 55, 63, 72, 82, 90, 98, 106], 47) := by decide +kernel
theorem dX11_look_48 : decode cX11_look 48 = .ok (.aload_n 0, 1) := by decide +kernel
theorem dX11_look_49 : decode cX11_look 49 = .ok (.getfield 19, 3) := by decide +kernel
theorem dX11_look_52 : decode cX11_look 52 = .ok (.getfield 373, 3) := by decide +kernel
theorem dX11_look_55 : decode cX11_look 55 = .ok (.ireturn, 1) := by decide +kernel
theorem dX11_look_56 : decode cX11_look 56 = .ok (.aload_n 0, 1) := by decide +kernel
theorem dX11_look_57 : decode cX11_look 57 = .ok (.getfield 19, 3) := by decide +kernel
theorem dX11_look_60 : decode cX11_look 60 = .ok (.getfield 124, 3) := by decide +kernel
theorem dX11_look_63 : decode cX11_look 63 = .ok (.ireturn, 1) := by decide +kernel
theorem dX11_look_64 : decode cX11_look 64 = .ok (.aload_n 0, 1) := by decide +kernel
theorem dX11_look_65 : decode cX11_look 65 = .ok (.getfield 19, 3) := by decide +kernel
theorem dX11_look_68 : decode cX11_look 68 = .ok (.iconst (-1), 1) := by decide +kernel
theorem dX11_look_69 : decode cX11_look 69 = .ok (.invokevirtual 376, 3) := by decide +kernel
theorem dX11_look_72 : decode cX11_look 72 = .ok (.ireturn, 1) := by decide +kernel
theorem dX11_look_73 : decode cX11_look 73 = .ok (.aload_n 0, 1) := by decide +kernel
theorem dX11_look_74 : decode cX11_look 74 = .ok (.getfield 19, 3) := by decide +kernel
theorem dX11_look_77 : decode cX11_look 77 = .ok (.bipush (-2), 2) := by decide +kernel
theorem dX11_look_79 : decode cX11_look 79 = .ok (.invokevirtual 376, 3) := by decide +kernel
theorem dX11_look_82 : decode cX11_look 82 = .ok (.ireturn, 1) := by decide +kernel
theorem dX11_look_83 : decode cX11_look 83 = .ok (.aload_n 0, 1) := by decide +kernel
theorem dX11_look_84 : decode cX11_look 84 = .ok (.getfield 26, 3) := by decide +kernel
theorem dX11_look_87 : decode cX11_look 87 = .ok (.getfield 118, 3) := by decide +kernel
theorem dX11_look_90 : decode cX11_look 90 = .ok (.ireturn, 1) := by decide +kernel
theorem dX11_look_91 : decode cX11_look 91 = .ok (.aload_n 0, 1) := by decide +kernel
theorem dX11_look_92 : decode cX11_look 92 = .ok (.getfield 26, 3) := by decide +kernel
theorem dX11_look_95 : decode cX11_look 95 = .ok (.getfield 127, 3) := by decide +kernel
theorem dX11_look_98 : decode cX11_look 98 = .ok (.ireturn, 1) := by decide +kernel
theorem dX11_look_99 : decode cX11_look 99 = .ok (.aload_n 0, 1) := by decide +kernel
theorem dX11_look_100 : decode cX11_look 100 = .ok (.getfield 35, 3) := by decide +kernel
theorem dX11_look_103 : decode cX11_look 103 = .ok (.getfield 121, 3) := by decide +kernel
theorem dX11_look_106 : decode cX11_look 106 = .ok (.ireturn, 1) := by decide +kernel
theorem dX11_look_107 : decode cX11_look 107 = .ok (.aload_n 0, 1) := by decide +kernel
theorem dX11_look_108 : decode cX11_look 108 = .ok (.getfield 10, 3) := by decide +kernel
theorem dX11_look_111 : decode cX11_look 111 = .ok (.getfield 91, 3) := by decide +kernel
theorem dX11_look_114 : decode cX11_look 114 = .ok (.ireturn, 1) := by decide +kernel
theorem dX11_look_115 : decode cX11_look 115 = .ok (.iconst (-1), 1) := by decide +kernel
theorem dX11_look_116 : decode cX11_look 116 = .ok (.ireturn, 1) := by decide +kernel
theorem dX12_isIn_0 : decode cX12_isIn 0 = .ok (.lload_n 0, 1) := by decide +kernel
theorem dX12_isIn_1 : decode cX12_isIn 1 = .ok (.lload_n 2, 1) := by decide +kernel
theorem dX12_isIn_2 : decode cX12_isIn 2 = .ok (.lcmp, 1) := by decide +kernel
theorem dX12_isIn_3 : decode cX12_isIn 3 = .ok (.ifCond .lt 14, 3) := by decide +kernel
theorem dX12_isIn_6 : decode cX12_isIn 6 = .ok (.lload_n 0, 1) := by decide +kernel
theorem dX12_isIn_7 : decode cX12_isIn 7 = .ok (.lload 4, 2) := by decide +kernel
theorem dX12_isIn_9 : decode cX12_isIn 9 = .ok (.lcmp, 1) := by decide +kernel
theorem dX12_isIn_10 : decode cX12_isIn 10 = .ok (.ifCond .gt 7, 3) := by decide +kernel
theorem dX12_isIn_13 : decode cX12_isIn 13 = .ok (.iconst 1, 1) := by decide +kernel
theorem dX12_isIn_14 : decode cX12_isIn 14 = .ok (.goto 4, 3) := by decide +kernel
theorem dX12_isIn_17 : decode cX12_isIn 17 = .ok (.iconst 0, 1) := by decide +kernel
theorem dX12_isIn_18 : decode cX12_isIn 18 = .ok (.ireturn, 1) := by decide +kernel
theorem dX12_one_0 : decode cX12_one 0 = .ok (.iload_n 0, 1) := by decide +kernel
theorem dX12_one_1 : decode cX12_one 1 = .ok (.ifCond .eq 7, 3) := by decide +kernel
theorem dX12_one_4 : decode cX12_one 4 = .ok (.iconst 1, 1) := by decide +kernel
theorem dX12_one_5 : decode cX12_one 5 = .ok (.goto 4, 3) := by decide +kernel
theorem dX12_one_8 : decode cX12_one 8 = .ok (.iconst 0, 1) := by decide +kernel
theorem dX12_one_9 : decode cX12_one 9 = .ok (.ireturn, 1) := by decide +kernel
theorem dX12_init_0 : decode cX12_init 0 = .ok (.aload_n 0, 1) := by decide +kernel
theorem dX12_init_1 : decode cX12_init 1 = .ok (.invokespecial 1, 3) := by decide +kernel
theorem dX12_init_4 : decode cX12_init 4 = .ok (.aload_n 0, 1) := by decide +kernel
theorem dX12_init_5 : decode cX12_init 5 = .ok (.bipush 32, 2) := by decide +kernel
theorem dX12_init_7 : decode cX12_init 7 = .ok (.newarray .int, 2) := by decide +kernel
theorem dX12_init_9 : decode cX12_init 9 = .ok (.putfield 7, 3) := by decide +kernel
theorem dX12_init_12 : decode cX12_init 12 = .ok (.aload_n 0, 1) := by decide +kernel
theorem dX12_init_13 : decode cX12_init 13 = .ok (.bipush 60, 2) := by decide +kernel
theorem dX12_init_15 : decode cX12_init 15 = .ok (.newarray .long, 2) := by decide +kernel
theorem dX12_init_17 : decode cX12_init 17 = .ok (.putfield 13, 3) := by decide +kernel
theorem dX12_init_20 : decode cX12_init 20 = .ok (.aload_n 0, 1) := by decide +kernel
theorem dX12_init_21 : decode cX12_init 21 = .ok (.bipush 60, 2) := by decide +kernel
theorem dX12_init_23 : decode cX12_init 23 = .ok (.newarray .int, 2) := by decide +kernel
theorem dX12_init_25 : decode cX12_init 25 = .ok (.putfield 17, 3) := by decide +kernel
theorem dX12_init_28 : decode cX12_init 28 = .ok (.aload_n 0, 1) := by decide +kernel
theorem dX12_init_29 : decode cX12_init 29 = .ok (.bipush 60, 2) := by decide +kernel
theorem dX12_init_31 : decode cX12_init 31 = .ok (.newarray .int, 2) := by decide +kernel
theorem dX12_init_33 : decode cX12_init 33 = .ok (.putfield 20, 3) := by decide +kernel
theorem dX12_init_36 : decode cX12_init 36 = .ok (.aload_n 0, 1) := by decide +kernel
theorem dX12_init_37 : decode cX12_init 37 = .ok (.bipush 60, 2) := by decide +kernel
theorem dX12_init_39 : decode cX12_init 39 = .ok (.newarray .int, 2) := by decide +kernel
theorem dX12_init_41 : decode cX12_init 41 = .ok (.putfield 23, 3) := by decide +kernel
theorem dX12_init_44 : decode cX12_init 44 = .ok (.aload_n 0, 1) := by decide +kernel
theorem dX12_init_45 : decode cX12_init 45 = .ok (.bipush 60, 2) := by decide +kernel
theorem dX12_init_47 : decode cX12_init 47 = .ok (.newarray .int, 2) := by decide +kernel
theorem dX12_init_49 : decode cX12_init 49 = .ok (.putfield 26, 3) := by decide +kernel
theorem dX12_init_52 : decode cX12_init 52 = .ok (.aload_n 0, 1) := by decide +kernel
theorem dX12_init_53 : decode cX12_init 53 = .ok (.bipush 60, 2) := by decide +kernel
theorem dX12_init_55 : decode cX12_init 55 = .ok (.newarray .int, 2) := by decide +kernel
theorem dX12_init_57 : decode cX12_init 57 = .ok (.putfield 29, 3) := by decide +kernel
theorem dX12_init_60 : decode cX12_init 60 = .ok (.aload_n 0, 1) := by decide +kernel
theorem dX12_init_61 : decode cX12_init 61 = .ok (.sipush 1020, 3) := by decide +kernel
theorem dX12_init_64 : decode cX12_init 64 = .ok (.newarray .int, 2) := by decide +kernel
theorem dX12_init_66 : decode cX12_init 66 = .ok (.putfield 32, 3) := by decide +kernel
theorem dX12_init_69 : decode cX12_init 69 = .ok (.aload_n 0, 1) := by decide +kernel
theorem dX12_init_70 : decode cX12_init 70 = .ok (.sipush 8160, 3) := by decide +kernel
theorem dX12_init_73 : decode cX12_init 73 = .ok (.newarray .int, 2) := by decide +kernel
theorem dX12_init_75 : decode cX12_init 75 = .ok (.putfield 35, 3) := by decide +kernel
theorem dX12_init_78 : decode cX12_init 78 = .ok (.aload_n 0, 1) := by decide +kernel
theorem dX12_init_79 : decode cX12_init 79 = .ok (.sipush 700, 3) := by decide +kernel
theorem dX12_init_82 : decode cX12_init 82 = .ok (.newarray .int, 2) := by decide +kernel
theorem dX12_init_84 : decode cX12_init 84 = .ok (.putfield 38, 3) := by decide +kernel
theorem dX12_init_87 : decode cX12_init 87 = .ok (.aload_n 0, 1) := by decide +kernel
theorem dX12_init_88 : decode cX12_init 88 = .ok (.iconst (-1), 1) := by decide +kernel
theorem dX12_init_89 : decode cX12_init 89 = .ok (.putfield 41, 3) := by decide +kernel
theorem dX12_init_92 : decode cX12_init 92 = .ok (.aload_n 0, 1) := by decide +kernel
theorem dX12_init_93 : decode cX12_init 93 = .ok (.sipush 360, 3) := by decide +kernel
theorem dX12_init_96 : decode cX12_init 96 = .ok (.newarray .int, 2) := by decide +kernel
theorem dX12_init_98 : decode cX12_init 98 = .ok (.putfield 45, 3) := by decide +kernel
theorem dX12_init_101 : decode cX12_init 101 = .ok (.aload_n 0, 1) := by decide +kernel
theorem dX12_init_102 : decode cX12_init 102 = .ok (.bipush 30, 2) := by decide +kernel
theorem dX12_init_104 : decode cX12_init 104 = .ok (.newarray .int, 2) := by decide +kernel
theorem dX12_init_106 : decode cX12_init 106 = .ok (.putfield 48, 3) := by decide +kernel
theorem dX12_init_109 : decode cX12_init 109 = .ok (.aload_n 0, 1) := by decide +kernel
theorem dX12_init_110 : decode cX12_init 110 = .ok (.bipush 30, 2) := by decide +kernel
theorem dX12_init_112 : decode cX12_init 112 = .ok (.newarray .int, 2) := by decide +kernel
theorem dX12_init_114 : decode cX12_init 114 = .ok (.putfield 51, 3) := by decide +kernel
theorem dX12_init_117 : decode cX12_init 117 = .ok (.aload_n 0, 1) := by decide +kernel
theorem dX12_init_118 : decode cX12_init 118 = .ok (.bipush 30, 2) := by decide +kernel
theorem dX12_init_120 : decode cX12_init 120 = .ok (.newarray .int, 2) := by decide +kernel
theorem dX12_init_122 : decode cX12_init 122 = .ok (.putfield 54, 3) := by decide +kernel
theorem dX12_init_125 : decode cX12_init 125 = .ok (.aload_n 0, 1) := by decide +kernel
theorem dX12_init_126 : decode cX12_init 126 = .ok (.bipush 30, 2) := by decide +kernel
theorem dX12_init_128 : decode cX12_init 128 = .ok (.newarray .int, 2) := by decide +kernel
theorem dX12_init_130 : decode cX12_init 130 = .ok (.putfield 57, 3) := by decide +kernel
theorem dX12_init_133 : decode cX12_init 133 = .ok (.aload_n 0, 1) := by decide +kernel
theorem dX12_init_134 : decode cX12_init 134 = .ok (.bipush 30, 2) := by decide +kernel
theorem dX12_init_136 : decode cX12_init 136 = .ok (.newarray .float, 2) := by decide +kernel
theorem dX12_init_138 : decode cX12_init 138 = .ok (.putfield 60, 3) := by decide +kernel
theorem dX12_init_141 : decode cX12_init 141 = .ok (.aload_n 0, 1) := by decide +kernel
theorem dX12_init_142 : decode cX12_init 142 = .ok (.bipush 48, 2) := by decide +kernel
theorem dX12_init_144 : decode cX12_init 144 = .ok (.newarray .int, 2) := by decide +kernel
theorem dX12_init_146 : decode cX12_init 146 = .ok (.putfield 64, 3) := by decide +kernel
theorem dX12_init_149 : decode cX12_init 149 = .ok (.aload_n 0, 1) := by decide +kernel
theorem dX12_init_150 : decode cX12_init 150 = .ok (.iconst 4, 1) := by decide +kernel
theorem dX12_init_151 : decode cX12_init 151 = .ok (.newarray .int, 2) := by decide +kernel
theorem dX12_init_153 : decode cX12_init 153 = .ok (.putfield 67, 3) := by decide +kernel
theorem dX12_init_156 : decode cX12_init 156 = .ok (.aload_n 0, 1) := by decide +kernel
theorem dX12_init_157 : decode cX12_init 157 = .ok (.bipush 12, 2) := by decide +kernel
theorem dX12_init_159 : decode cX12_init 159 = .ok (.newarray .int, 2) := by decide +kernel
theorem dX12_init_161 : decode cX12_init 161 = .ok (.putfield 70, 3) := by decide +kernel
theorem dX12_init_164 : decode cX12_init 164 = .ok (.aload_n 0, 1) := by decide +kernel
theorem dX12_init_165 : decode cX12_init 165 = .ok (.sipush 144, 3) := by decide +kernel
theorem dX12_init_168 : decode cX12_init 168 = .ok (.newarray .int, 2) := by decide +kernel
theorem dX12_init_170 : decode cX12_init 170 = .ok (.putfield 73, 3) := by decide +kernel
theorem dX12_init_173 : decode cX12_init 173 = .ok (.aload_n 0, 1) := by decide +kernel
theorem dX12_init_174 : decode cX12_init 174 = .ok (.bipush 12, 2) := by decide +kernel
theorem dX12_init_176 : decode cX12_init 176 = .ok (.newarray .int, 2) := by decide +kernel
theorem dX12_init_178 : decode cX12_init 178 = .ok (.putfield 76, 3) := by decide +kernel
theorem dX12_init_181 : decode cX12_init 181 = .ok (.aload_n 0, 1) := by decide +kernel
theorem dX12_init_182 : decode cX12_init 182 = .ok (.bipush 12, 2) := by decide +kernel
theorem dX12_init_184 : decode cX12_init 184 = .ok (.newarray .int, 2) := by decide +kernel
theorem dX12_init_186 : decode cX12_init 186 = .ok (.putfield 79, 3) := by decide +kernel
theorem dX12_init_189 : decode cX12_init 189 = .ok (.aload_n 0, 1) := by decide +kernel
theorem dX12_init_190 : decode cX12_init 190 = .ok (.bipush 30, 2) := by decide +kernel
theorem dX12_init_192 : decode cX12_init 192 = .ok (.newarray .boolean, 2) := by decide +kernel
theorem dX12_init_194 : decode cX12_init 194 = .ok (.putfield 82, 3) := by decide +kernel
theorem dX12_init_197 : decode cX12_init 197 = .ok (.aload_n 0, 1) := by decide +kernel
theorem dX12_init_198 : decode cX12_init 198 = .ok (.bipush 30, 2) := by decide +kernel
theorem dX12_init_200 : decode cX12_init 200 = .ok (.newarray .boolean, 2) := by decide +kernel
theorem dX12_init_202 : decode cX12_init 202 = .ok (.putfield 86, 3) := by decide +kernel
theorem dX12_init_205 : decode cX12_init 205 = .ok (.aload_n 0, 1) := by decide +kernel
theorem dX12_init_206 : decode cX12_init 206 = .ok (.bipush 30, 2) := by decide +kernel
theorem dX12_init_208 : decode cX12_init 208 = .ok (.newarray .boolean, 2) := by decide +kernel
theorem dX12_init_210 : decode cX12_init 210 = .ok (.putfield 89, 3) := by decide +kernel
theorem dX12_init_213 : decode cX12_init 213 = .ok (.aload_n 0, 1) := by decide +kernel
theorem dX12_init_214 : decode cX12_init 214 = .ok (.bipush 30, 2) := by decide +kernel
theorem dX12_init_216 : decode cX12_init 216 = .ok (.newarray .boolean, 2) := by decide +kernel
theorem dX12_init_218 : decode cX12_init 218 = .ok (.putfield 92, 3) := by decide +kernel
theorem dX12_init_221 : decode cX12_init 221 = .ok (.aload_n 0, 1) := by decide +kernel
theorem dX12_init_222 : decode cX12_init 222 = .ok (.bipush 48, 2) := by decide +kernel
theorem dX12_init_224 : decode cX12_init 224 = .ok (.newarray .int, 2) := by decide +kernel
theorem dX12_init_226 : decode cX12_init 226 = .ok (.putfield 95, 3) := by decide +kernel
theorem dX12_init_229 : decode cX12_init 229 = .ok (.aload_n 0, 1) := by decide +kernel
theorem dX12_init_230 : decode cX12_init 230 = .ok (.iconst 4, 1) := by decide +kernel
theorem dX12_init_231 : decode cX12_init 231 = .ok (.newarray .int, 2) := by decide +kernel
theorem dX12_init_233 : decode cX12_init 233 = .ok (.putfield 98, 3) := by decide +kernel
theorem dX12_init_236 : decode cX12_init 236 = .ok (.aload_n 0, 1) := by decide +kernel
theorem dX12_init_237 : decode cX12_init 237 = .ok (.iconst 4, 1) := by decide +kernel
theorem dX12_init_238 : decode cX12_init 238 = .ok (.newarray .int, 2) := by decide +kernel
theorem dX12_init_240 : decode cX12_init 240 = .ok (.putfield 101, 3) := by decide +kernel
theorem dX12_init_243 : decode cX12_init 243 = .ok (.aload_n 0, 1) := by decide +kernel
theorem dX12_init_244 : decode cX12_init 244 = .ok (.iconst 4, 1) := by decide +kernel
theorem dX12_init_245 : decode cX12_init 245 = .ok (.newarray .int, 2) := by decide +kernel
theorem dX12_init_247 : decode cX12_init 247 = .ok (.putfield 104, 3) := by decide +kernel
theorem dX12_init_250 : decode cX12_init 250 = .ok (.aload_n 0, 1) := by decide +kernel
theorem dX12_init_251 : decode cX12_init 251 = .ok (.sipush 200, 3) := by decide +kernel
theorem dX12_init_254 : decode cX12_init 254 = .ok (.newarray .int, 2) := by decide +kernel
theorem dX12_init_256 : decode cX12_init 256 = .ok (.putfield 107, 3) := by decide +kernel
theorem dX12_init_259 : decode cX12_init 259 = .ok (.iconst 0, 1) := by decide +kernel
theorem dX12_init_260 : decode cX12_init 260 = .ok (.istore_n 1, 1) := by decide +kernel
theorem dX12_init_261 : decode cX12_init 261 = .ok (.iload_n 1, 1) := by decide +kernel
theorem dX12_init_262 : decode cX12_init 262 = .ok (.sipush 900, 3) := by decide +kernel
theorem dX12_init_265 : decode cX12_init 265 = .ok (.if_icmp .ge 19, 3) := by decide +kernel
theorem dX12_init_268 : decode cX12_init 268 = .ok (.aload_n 0, 1) := by decide +kernel
theorem dX12_init_269 : decode cX12_init 269 = .ok (.getfield 32, 3) := by decide +kernel
theorem dX12_init_272 : decode cX12_init 272 = .ok (.bipush 120, 2) := by decide +kernel
theorem dX12_init_274 : decode cX12_init 274 = .ok (.iload_n 1, 1) := by decide +kernel
theorem dX12_init_275 : decode cX12_init 275 = .ok (.iadd, 1) := by decide +kernel
theorem dX12_init_276 : decode cX12_init 276 = .ok (.iconst (-1), 1) := by decide +kernel
theorem dX12_init_277 : decode cX12_init 277 = .ok (.iastore, 1) := by decide +kernel
theorem dX12_init_278 : decode cX12_init 278 = .ok (.iinc 1 1, 3) := by decide +kernel
theorem dX12_init_281 : decode cX12_init 281 = .ok (.goto (-20), 3) := by decide +kernel
theorem dX12_init_284 : decode cX12_init 284 = .ok (.return_, 1) := by decide +kernel
theorem dX12_keeps_0 : decode cX12_keeps 0 = .ok (.aload_n 0, 1) := by decide +kernel
theorem dX12_keeps_1 : decode cX12_keeps 1 = .ok (.getfield 110, 3) := by decide +kernel
theorem dX12_keeps_4 : decode cX12_keeps 4 = .ok (.bipush 8, 2) := by decide +kernel
theorem dX12_keeps_6 : decode cX12_keeps 6 = .ok (.if_icmp .ne 44, 3) := by decide +kernel
theorem dX12_keeps_9 : decode cX12_keeps 9 = .ok (.iconst 0, 1) := by decide +kernel
theorem dX12_keeps_10 : decode cX12_keeps 10 = .ok (.istore_n 1, 1) := by decide +kernel
theorem dX12_keeps_11 : decode cX12_keeps 11 = .ok (.iload_n 1, 1) := by decide +kernel
theorem dX12_keeps_12 : decode cX12_keeps 12 = .ok (.sipush 7140, 3) := by decide +kernel
theorem dX12_keeps_15 : decode cX12_keeps 15 = .ok (.if_icmp .ge 25, 3) := by decide +kernel
theorem dX12_keeps_18 : decode cX12_keeps 18 = .ok (.aload_n 0, 1) := by decide +kernel
theorem dX12_keeps_19 : decode cX12_keeps 19 = .ok (.getfield 35, 3) := by decide +kernel
theorem dX12_keeps_22 : decode cX12_keeps 22 = .ok (.iload_n 1, 1) := by decide +kernel
theorem dX12_keeps_23 : decode cX12_keeps 23 = .ok (.aload_n 0, 1) := by decide +kernel
theorem dX12_keeps_24 : decode cX12_keeps 24 = .ok (.getfield 35, 3) := by decide +kernel
theorem dX12_keeps_27 : decode cX12_keeps 27 = .ok (.iload_n 1, 1) := by decide +kernel
theorem dX12_keeps_28 : decode cX12_keeps 28 = .ok (.sipush 1020, 3) := by decide +kernel
theorem dX12_keeps_31 : decode cX12_keeps 31 = .ok (.iadd, 1) := by decide +kernel
theorem dX12_keeps_32 : decode cX12_keeps 32 = .ok (.iaload, 1) := by decide +kernel
theorem dX12_keeps_33 : decode cX12_keeps 33 = .ok (.iastore, 1) := by decide +kernel
theorem dX12_keeps_34 : decode cX12_keeps 34 = .ok (.iinc 1 1, 3) := by decide +kernel
theorem dX12_keeps_37 : decode cX12_keeps 37 = .ok (.goto (-26), 3) := by decide +kernel
theorem dX12_keeps_40 : decode cX12_keeps 40 = .ok (.aload_n 0, 1) := by decide +kernel
theorem dX12_keeps_41 : decode cX12_keeps 41 = .ok (.dup, 1) := by decide +kernel
theorem dX12_keeps_42 : decode cX12_keeps 42 = .ok (.getfield 110, 3) := by decide +kernel
theorem dX12_keeps_45 : decode cX12_keeps 45 = .ok (.iconst 1, 1) := by decide +kernel
theorem dX12_keeps_46 : decode cX12_keeps 46 = .ok (.isub, 1) := by decide +kernel
theorem dX12_keeps_47 : decode cX12_keeps 47 = .ok (.putfield 110, 3) := by decide +kernel
theorem dX12_keeps_50 : decode cX12_keeps 50 = .ok (.iconst 0, 1) := by decide +kernel
theorem dX12_keeps_51 : decode cX12_keeps 51 = .ok (.istore_n 1, 1) := by decide +kernel
theorem dX12_keeps_52 : decode cX12_keeps 52 = .ok (.iload_n 1, 1) := by decide +kernel
theorem dX12_keeps_53 : decode cX12_keeps 53 = .ok (.sipush 1020, 3) := by decide +kernel
theorem dX12_keeps_56 : decode cX12_keeps 56 = .ok (.if_icmp .ge 30, 3) := by decide +kernel
theorem dX12_keeps_59 : decode cX12_keeps 59 = .ok (.aload_n 0, 1) := by decide +kernel
theorem dX12_keeps_60 : decode cX12_keeps 60 = .ok (.getfield 35, 3) := by decide +kernel
theorem dX12_keeps_63 : decode cX12_keeps 63 = .ok (.sipush 1020, 3) := by decide +kernel
theorem dX12_keeps_66 : decode cX12_keeps 66 = .ok (.aload_n 0, 1) := by decide +kernel
theorem dX12_keeps_67 : decode cX12_keeps 67 = .ok (.getfield 110, 3) := by decide +kernel
theorem dX12_keeps_70 : decode cX12_keeps 70 = .ok (.imul, 1) := by decide +kernel
theorem dX12_keeps_71 : decode cX12_keeps 71 = .ok (.iload_n 1, 1) := by decide +kernel
theorem dX12_keeps_72 : decode cX12_keeps 72 = .ok (.iadd, 1) := by decide +kernel
theorem dX12_keeps_73 : decode cX12_keeps 73 = .ok (.aload_n 0, 1) := by decide +kernel
theorem dX12_keeps_74 : decode cX12_keeps 74 = .ok (.getfield 32, 3) := by decide +kernel
theorem dX12_keeps_77 : decode cX12_keeps 77 = .ok (.iload_n 1, 1) := by decide +kernel
theorem dX12_keeps_78 : decode cX12_keeps 78 = .ok (.iaload, 1) := by decide +kernel
theorem dX12_keeps_79 : decode cX12_keeps 79 = .ok (.iastore, 1) := by decide +kernel
theorem dX12_keeps_80 : decode cX12_keeps 80 = .ok (.iinc 1 1, 3) := by decide +kernel
theorem dX12_keeps_83 : decode cX12_keeps 83 = .ok (.goto (-31), 3) := by decide +kernel
theorem dX12_keeps_86 : decode cX12_keeps 86 = .ok (.aload_n 0, 1) := by decide +kernel
theorem dX12_keeps_87 : decode cX12_keeps 87 = .ok (.dup, 1) := by decide +kernel
theorem dX12_keeps_88 : decode cX12_keeps 88 = .ok (.getfield 110, 3) := by decide +kernel
theorem dX12_keeps_91 : decode cX12_keeps 91 = .ok (.iconst 1, 1) := by decide +kernel
theorem dX12_keeps_92 : decode cX12_keeps 92 = .ok (.iadd, 1) := by decide +kernel
theorem dX12_keeps_93 : decode cX12_keeps 93 = .ok (.putfield 110, 3) := by decide +kernel
theorem dX12_keeps_96 : decode cX12_keeps 96 = .ok (.return_, 1) := by decide +kernel
theorem dX12_undo_0 : decode cX12_undo 0 = .ok (.aload_n 0, 1) := by decide +kernel
theorem dX12_undo_1 : decode cX12_undo 1 = .ok (.getfield 110, 3) := by decide +kernel
theorem dX12_undo_4 : decode cX12_undo 4 = .ok (.ifCond .ne 5, 3) := by decide +kernel
theorem dX12_undo_7 : decode cX12_undo 7 = .ok (.iconst 0, 1) := by decide +kernel
theorem dX12_undo_8 : decode cX12_undo 8 = .ok (.ireturn, 1) := by decide +kernel
theorem dX12_undo_9 : decode cX12_undo 9 = .ok (.aload_n 0, 1) := by decide +kernel
theorem dX12_undo_10 : decode cX12_undo 10 = .ok (.dup, 1) := by decide +kernel
theorem dX12_undo_11 : decode cX12_undo 11 = .ok (.getfield 110, 3) := by decide +kernel
theorem dX12_undo_14 : decode cX12_undo 14 = .ok (.iconst 1, 1) := by decide +kernel
theorem dX12_undo_15 : decode cX12_undo 15 = .ok (.isub, 1) := by decide +kernel
theorem dX12_undo_16 : decode cX12_undo 16 = .ok (.putfield 110, 3) := by decide +kernel
theorem dX12_undo_19 : decode cX12_undo 19 = .ok (.iconst 0, 1) := by decide +kernel
theorem dX12_undo_20 : decode cX12_undo 20 = .ok (.istore_n 1, 1) := by decide +kernel
theorem dX12_undo_21 : decode cX12_undo 21 = .ok (.iload_n 1, 1) := by decide +kernel
theorem dX12_undo_22 : decode cX12_undo 22 = .ok (.sipush 1020, 3) := by decide +kernel
theorem dX12_undo_25 : decode cX12_undo 25 = .ok (.if_icmp .ge 30, 3) := by decide +kernel
theorem dX12_undo_28 : decode cX12_undo 28 = .ok (.aload_n 0, 1) := by decide +kernel
theorem dX12_undo_29 : decode cX12_undo 29 = .ok (.getfield 32, 3) := by decide +kernel
theorem dX12_undo_32 : decode cX12_undo 32 = .ok (.iload_n 1, 1) := by decide +kernel
theorem dX12_undo_33 : decode cX12_undo 33 = .ok (.aload_n 0, 1) := by decide +kernel
theorem dX12_undo_34 : decode cX12_undo 34 = .ok (.getfield 35, 3) := by decide +kernel
theorem dX12_undo_37 : decode cX12_undo 37 = .ok (.sipush 1020, 3) := by decide +kernel
theorem dX12_undo_40 : decode cX12_undo 40 = .ok (.aload_n 0, 1) := by decide +kernel
theorem dX12_undo_41 : decode cX12_undo 41 = .ok (.getfield 110, 3) := by decide +kernel
theorem dX12_undo_44 : decode cX12_undo 44 = .ok (.imul, 1) := by decide +kernel
theorem dX12_undo_45 : decode cX12_undo 45 = .ok (.iload_n 1, 1) := by decide +kernel
theorem dX12_undo_46 : decode cX12_undo 46 = .ok (.iadd, 1) := by decide +kernel
theorem dX12_undo_47 : decode cX12_undo 47 = .ok (.iaload, 1) := by decide +kernel
theorem dX12_undo_48 : decode cX12_undo 48 = .ok (.iastore, 1) := by decide +kernel
theorem dX12_undo_49 : decode cX12_undo 49 = .ok (.iinc 1 1, 3) := by decide +kernel
theorem dX12_undo_52 : decode cX12_undo 52 = .ok (.goto (-31), 3) := by decide +kernel
theorem dX12_undo_55 : decode cX12_undo 55 = .ok (.iconst 1, 1) := by decide +kernel
theorem dX12_undo_56 : decode cX12_undo 56 = .ok (.ireturn, 1) := by decide +kernel
theorem dX12_four_0 : decode cX12_four 0 = .ok (.bipush 24, 2) := by decide +kernel
theorem dX12_four_2 : decode cX12_four 2 = .ok (.istore_n 2, 1) := by decide +kernel
theorem dX12_four_3 : decode cX12_four 3 = .ok (.iload_n 2, 1) := by decide +kernel
theorem dX12_four_4 : decode cX12_four 4 = .ok (.ifCond .lt 35, 3) := by decide +kernel
theorem dX12_four_7 : decode cX12_four 7 = .ok (.aload_n 0, 1) := by decide +kernel
theorem dX12_four_8 : decode cX12_four 8 = .ok (.getfield 38, 3) := by decide +kernel
theorem dX12_four_11 : decode cX12_four 11 = .ok (.aload_n 0, 1) := by decide +kernel
theorem dX12_four_12 : decode cX12_four 12 = .ok (.getfield 113, 3) := by decide +kernel
theorem dX12_four_15 : decode cX12_four 15 = .ok (.iload_n 1, 1) := by decide +kernel
theorem dX12_four_16 : decode cX12_four 16 = .ok (.iload_n 2, 1) := by decide +kernel
theorem dX12_four_17 : decode cX12_four 17 = .ok (.ishr, 1) := by decide +kernel
theorem dX12_four_18 : decode cX12_four 18 = .ok (.sipush 255, 3) := by decide +kernel
theorem dX12_four_21 : decode cX12_four 21 = .ok (.iand, 1) := by decide +kernel
theorem dX12_four_22 : decode cX12_four 22 = .ok (.iastore, 1) := by decide +kernel
theorem dX12_four_23 : decode cX12_four 23 = .ok (.aload_n 0, 1) := by decide +kernel
theorem dX12_four_24 : decode cX12_four 24 = .ok (.dup, 1) := by decide +kernel
theorem dX12_four_25 : decode cX12_four 25 = .ok (.getfield 113, 3) := by decide +kernel
theorem dX12_four_28 : decode cX12_four 28 = .ok (.iconst 1, 1) := by decide +kernel
theorem dX12_four_29 : decode cX12_four 29 = .ok (.iadd, 1) := by decide +kernel
theorem dX12_four_30 : decode cX12_four 30 = .ok (.putfield 113, 3) := by decide +kernel
theorem dX12_four_33 : decode cX12_four 33 = .ok (.iinc 2 (-8), 3) := by decide +kernel
theorem dX12_four_36 : decode cX12_four 36 = .ok (.goto (-33), 3) := by decide +kernel
theorem dX12_four_39 : decode cX12_four 39 = .ok (.return_, 1) := by decide +kernel
theorem dX12_feed_0 : decode cX12_feed 0 = .ok (.aload_n 0, 1) := by decide +kernel
theorem dX12_feed_1 : decode cX12_feed 1 = .ok (.getfield 113, 3) := by decide +kernel
theorem dX12_feed_4 : decode cX12_feed 4 = .ok (.bipush 20, 2) := by decide +kernel
theorem dX12_feed_6 : decode cX12_feed 6 = .ok (.iadd, 1) := by decide +kernel
theorem dX12_feed_7 : decode cX12_feed 7 = .ok (.sipush 700, 3) := by decide +kernel
theorem dX12_feed_10 : decode cX12_feed 10 = .ok (.if_icmp .le 5, 3) := by decide +kernel
theorem dX12_feed_13 : decode cX12_feed 13 = .ok (.iconst (-1), 1) := by decide +kernel
theorem dX12_feed_14 : decode cX12_feed 14 = .ok (.ireturn, 1) := by decide +kernel
theorem dX12_feed_15 : decode cX12_feed 15 = .ok (.aload_n 0, 1) := by decide +kernel
theorem dX12_feed_16 : decode cX12_feed 16 = .ok (.iload_n 1, 1) := by decide +kernel
theorem dX12_feed_17 : decode cX12_feed 17 = .ok (.invokevirtual 116, 3) := by decide +kernel
theorem dX12_feed_20 : decode cX12_feed 20 = .ok (.aload_n 0, 1) := by decide +kernel
theorem dX12_feed_21 : decode cX12_feed 21 = .ok (.iload_n 2, 1) := by decide +kernel
theorem dX12_feed_22 : decode cX12_feed 22 = .ok (.invokevirtual 116, 3) := by decide +kernel
theorem dX12_feed_25 : decode cX12_feed 25 = .ok (.aload_n 0, 1) := by decide +kernel
theorem dX12_feed_26 : decode cX12_feed 26 = .ok (.iload_n 3, 1) := by decide +kernel
theorem dX12_feed_27 : decode cX12_feed 27 = .ok (.invokevirtual 116, 3) := by decide +kernel
theorem dX12_feed_30 : decode cX12_feed 30 = .ok (.aload_n 0, 1) := by decide +kernel
theorem dX12_feed_31 : decode cX12_feed 31 = .ok (.iload 4, 2) := by decide +kernel
theorem dX12_feed_33 : decode cX12_feed 33 = .ok (.invokevirtual 116, 3) := by decide +kernel
theorem dX12_feed_36 : decode cX12_feed 36 = .ok (.aload_n 0, 1) := by decide +kernel
theorem dX12_feed_37 : decode cX12_feed 37 = .ok (.iload 5, 2) := by decide +kernel
theorem dX12_feed_39 : decode cX12_feed 39 = .ok (.invokevirtual 116, 3) := by decide +kernel
theorem dX12_feed_42 : decode cX12_feed 42 = .ok (.aload_n 0, 1) := by decide +kernel
theorem dX12_feed_43 : decode cX12_feed 43 = .ok (.getfield 113, 3) := by decide +kernel
theorem dX12_feed_46 : decode cX12_feed 46 = .ok (.ireturn, 1) := by decide +kernel
theorem dX12_end_0 : decode cX12_end 0 = .ok (.iload_n 1, 1) := by decide +kernel
theorem dX12_end_1 : decode cX12_end 1 = .ok (.i2l, 1) := by decide +kernel
theorem dX12_end_2 : decode cX12_end 2 = .ok (.lconst 0, 1) := by decide +kernel
theorem dX12_end_3 : decode cX12_end 3 = .ok (.aload_n 0, 1) := by decide +kernel
theorem dX12_end_4 : decode cX12_end 4 = .ok (.getfield 113, 3) := by decide +kernel
theorem dX12_end_7 : decode cX12_end 7 = .ok (.i2l, 1) := by decide +kernel
theorem dX12_end_8 : decode cX12_end 8 = .ok (.invokestatic 120, 3) := by decide +kernel
theorem dX12_end_11 : decode cX12_end 11 = .ok (.ifCond .ne 5, 3) := by decide +kernel
theorem dX12_end_14 : decode cX12_end 14 = .ok (.iconst 0, 1) := by decide +kernel
theorem dX12_end_15 : decode cX12_end 15 = .ok (.ireturn, 1) := by decide +kernel
theorem dX12_end_16 : decode cX12_end 16 = .ok (.aload_n 0, 1) := by decide +kernel
theorem dX12_end_17 : decode cX12_end 17 = .ok (.iload_n 1, 1) := by decide +kernel
theorem dX12_end_18 : decode cX12_end 18 = .ok (.putfield 113, 3) := by decide +kernel
theorem dX12_end_21 : decode cX12_end 21 = .ok (.iconst 1, 1) := by decide +kernel
theorem dX12_end_22 : decode cX12_end 22 = .ok (.ireturn, 1) := by decide +kernel
theorem dX12_see_0 : decode cX12_see 0 = .ok (.iload_n 1, 1) := by decide +kernel
theorem dX12_see_1 : decode cX12_see 1 = .ok (.aload_n 0, 1) := by decide +kernel
theorem dX12_see_2 : decode cX12_see 2 = .ok (.getfield 113, 3) := by decide +kernel
theorem dX12_see_5 : decode cX12_see 5 = .ok (.if_icmp .ge 12, 3) := by decide +kernel
theorem dX12_see_8 : decode cX12_see 8 = .ok (.aload_n 0, 1) := by decide +kernel
theorem dX12_see_9 : decode cX12_see 9 = .ok (.getfield 38, 3) := by decide +kernel
theorem dX12_see_12 : decode cX12_see 12 = .ok (.iload_n 1, 1) := by decide +kernel
theorem dX12_see_13 : decode cX12_see 13 = .ok (.iaload, 1) := by decide +kernel
theorem dX12_see_14 : decode cX12_see 14 = .ok (.goto 4, 3) := by decide +kernel
theorem dX12_see_17 : decode cX12_see 17 = .ok (.iconst (-1), 1) := by decide +kernel
theorem dX12_see_18 : decode cX12_see 18 = .ok (.ireturn, 1) := by decide +kernel
theorem dX12_next_0 : decode cX12_next 0 = .ok (.aload_n 0, 1) := by decide +kernel
theorem dX12_next_1 : decode cX12_next 1 = .ok (.aload_n 0, 1) := by decide +kernel
theorem dX12_next_2 : decode cX12_next 2 = .ok (.getfield 124, 3) := by decide +kernel
theorem dX12_next_5 : decode cX12_next 5 = .ok (.invokevirtual 127, 3) := by decide +kernel
theorem dX12_next_8 : decode cX12_next 8 = .ok (.bipush 32, 2) := by decide +kernel
theorem dX12_next_10 : decode cX12_next 10 = .ok (.if_icmp .eq 16, 3) := by decide +kernel
theorem dX12_next_13 : decode cX12_next 13 = .ok (.aload_n 0, 1) := by decide +kernel
theorem dX12_next_14 : decode cX12_next 14 = .ok (.aload_n 0, 1) := by decide +kernel
theorem dX12_next_15 : decode cX12_next 15 = .ok (.getfield 124, 3) := by decide +kernel
theorem dX12_next_18 : decode cX12_next 18 = .ok (.invokevirtual 127, 3) := by decide +kernel
theorem dX12_next_21 : decode cX12_next 21 = .ok (.bipush 10, 2) := by decide +kernel
theorem dX12_next_23 : decode cX12_next 23 = .ok (.if_icmp .ne 16, 3) := by decide +kernel
theorem dX12_next_26 : decode cX12_next 26 = .ok (.aload_n 0, 1) := by decide +kernel
theorem dX12_next_27 : decode cX12_next 27 = .ok (.dup, 1) := by decide +kernel
theorem dX12_next_28 : decode cX12_next 28 = .ok (.getfield 124, 3) := by decide +kernel
theorem dX12_next_31 : decode cX12_next 31 = .ok (.iconst 1, 1) := by decide +kernel
theorem dX12_next_32 : decode cX12_next 32 = .ok (.iadd, 1) := by decide +kernel
theorem dX12_next_33 : decode cX12_next 33 = .ok (.putfield 124, 3) := by decide +kernel
theorem dX12_next_36 : decode cX12_next 36 = .ok (.goto (-36), 3) := by decide +kernel
theorem dX12_next_39 : decode cX12_next 39 = .ok (.aload_n 0, 1) := by decide +kernel
theorem dX12_next_40 : decode cX12_next 40 = .ok (.aload_n 0, 1) := by decide +kernel
theorem dX12_next_41 : decode cX12_next 41 = .ok (.getfield 124, 3) := by decide +kernel
theorem dX12_next_44 : decode cX12_next 44 = .ok (.putfield 131, 3) := by decide +kernel
theorem dX12_next_47 : decode cX12_next 47 = .ok (.aload_n 0, 1) := by decide +kernel
theorem dX12_next_48 : decode cX12_next 48 = .ok (.aload_n 0, 1) := by decide +kernel
theorem dX12_next_49 : decode cX12_next 49 = .ok (.getfield 124, 3) := by decide +kernel
theorem dX12_next_52 : decode cX12_next 52 = .ok (.invokevirtual 127, 3) := by decide +kernel
theorem dX12_next_55 : decode cX12_next 55 = .ok (.istore_n 1, 1) := by decide +kernel
theorem dX12_next_56 : decode cX12_next 56 = .ok (.aload_n 0, 1) := by decide +kernel
theorem dX12_next_57 : decode cX12_next 57 = .ok (.lconst 0, 1) := by decide +kernel
theorem dX12_next_58 : decode cX12_next 58 = .ok (.putfield 134, 3) := by decide +kernel
theorem dX12_next_61 : decode cX12_next 61 = .ok (.aload_n 0, 1) := by decide +kernel
theorem dX12_next_62 : decode cX12_next 62 = .ok (.iconst 0, 1) := by decide +kernel
theorem dX12_next_63 : decode cX12_next 63 = .ok (.putfield 138, 3) := by decide +kernel
theorem dX12_next_66 : decode cX12_next 66 = .ok (.aload_n 0, 1) := by decide +kernel
theorem dX12_next_67 : decode cX12_next 67 = .ok (.iconst 0, 1) := by decide +kernel
theorem dX12_next_68 : decode cX12_next 68 = .ok (.putfield 141, 3) := by decide +kernel
theorem dX12_next_71 : decode cX12_next 71 = .ok (.iload_n 1, 1) := by decide +kernel
theorem dX12_next_72 : decode cX12_next 72 = .ok (.iconst (-1), 1) := by decide +kernel
theorem dX12_next_73 : decode cX12_next 73 = .ok (.if_icmp .ne 11, 3) := by decide +kernel
theorem dX12_next_76 : decode cX12_next 76 = .ok (.aload_n 0, 1) := by decide +kernel
theorem dX12_next_77 : decode cX12_next 77 = .ok (.iconst 0, 1) := by decide +kernel
theorem dX12_next_78 : decode cX12_next 78 = .ok (.putfield 144, 3) := by decide +kernel
theorem dX12_next_81 : decode cX12_next 81 = .ok (.goto 202, 3) := by decide +kernel
theorem dX12_next_84 : decode cX12_next 84 = .ok (.iload_n 1, 1) := by decide +kernel
theorem dX12_next_85 : decode cX12_next 85 = .ok (.i2l, 1) := by decide +kernel
theorem dX12_next_86 : decode cX12_next 86 = .ok (.ldc2_w 147, 3) := by decide +kernel
theorem dX12_next_89 : decode cX12_next 89 = .ok (.ldc2_w 149, 3) := by decide +kernel
theorem dX12_next_92 : decode cX12_next 92 = .ok (.invokestatic 120, 3) := by decide +kernel
theorem dX12_next_95 : decode cX12_next 95 = .ok (.ifCond .eq 79, 3) := by decide +kernel
theorem dX12_next_98 : decode cX12_next 98 = .ok (.aload_n 0, 1) := by decide +kernel
theorem dX12_next_99 : decode cX12_next 99 = .ok (.iconst 1, 1) := by decide +kernel
theorem dX12_next_100 : decode cX12_next 100 = .ok (.putfield 144, 3) := by decide +kernel
theorem dX12_next_103 : decode cX12_next 103 = .ok (.aload_n 0, 1) := by decide +kernel
theorem dX12_next_104 : decode cX12_next 104 = .ok (.aload_n 0, 1) := by decide +kernel
theorem dX12_next_105 : decode cX12_next 105 = .ok (.getfield 124, 3) := by decide +kernel
theorem dX12_next_108 : decode cX12_next 108 = .ok (.invokevirtual 127, 3) := by decide +kernel
theorem dX12_next_111 : decode cX12_next 111 = .ok (.i2l, 1) := by decide +kernel
theorem dX12_next_112 : decode cX12_next 112 = .ok (.ldc2_w 147, 3) := by decide +kernel
theorem dX12_next_115 : decode cX12_next 115 = .ok (.ldc2_w 149, 3) := by decide +kernel
theorem dX12_next_118 : decode cX12_next 118 = .ok (.invokestatic 120, 3) := by decide +kernel
theorem dX12_next_121 : decode cX12_next 121 = .ok (.ifCond .eq 162, 3) := by decide +kernel
theorem dX12_next_124 : decode cX12_next 124 = .ok (.aload_n 0, 1) := by decide +kernel
theorem dX12_next_125 : decode cX12_next 125 = .ok (.getfield 124, 3) := by decide +kernel
theorem dX12_next_128 : decode cX12_next 128 = .ok (.aload_n 0, 1) := by decide +kernel
theorem dX12_next_129 : decode cX12_next 129 = .ok (.getfield 131, 3) := by decide +kernel
theorem dX12_next_132 : decode cX12_next 132 = .ok (.isub, 1) := by decide +kernel
theorem dX12_next_133 : decode cX12_next 133 = .ok (.bipush 7, 2) := by decide +kernel
theorem dX12_next_135 : decode cX12_next 135 = .ok (.if_icmp .ge 26, 3) := by decide +kernel
theorem dX12_next_138 : decode cX12_next 138 = .ok (.aload_n 0, 1) := by decide +kernel
theorem dX12_next_139 : decode cX12_next 139 = .ok (.aload_n 0, 1) := by decide +kernel
theorem dX12_next_140 : decode cX12_next 140 = .ok (.getfield 134, 3) := by decide +kernel
theorem dX12_next_143 : decode cX12_next 143 = .ok (.iconst 5, 1) := by decide +kernel
theorem dX12_next_144 : decode cX12_next 144 = .ok (.lshl, 1) := by decide +kernel
theorem dX12_next_145 : decode cX12_next 145 = .ok (.aload_n 0, 1) := by decide +kernel
theorem dX12_next_146 : decode cX12_next 146 = .ok (.aload_n 0, 1) := by decide +kernel
theorem dX12_next_147 : decode cX12_next 147 = .ok (.getfield 124, 3) := by decide +kernel
theorem dX12_next_150 : decode cX12_next 150 = .ok (.invokevirtual 127, 3) := by decide +kernel
theorem dX12_next_153 : decode cX12_next 153 = .ok (.bipush 96, 2) := by decide +kernel
theorem dX12_next_155 : decode cX12_next 155 = .ok (.isub, 1) := by decide +kernel
theorem dX12_next_156 : decode cX12_next 156 = .ok (.i2l, 1) := by decide +kernel
theorem dX12_next_157 : decode cX12_next 157 = .ok (.lor, 1) := by decide +kernel
theorem dX12_next_158 : decode cX12_next 158 = .ok (.putfield 134, 3) := by decide +kernel
theorem dX12_next_161 : decode cX12_next 161 = .ok (.aload_n 0, 1) := by decide +kernel
theorem dX12_next_162 : decode cX12_next 162 = .ok (.dup, 1) := by decide +kernel
theorem dX12_next_163 : decode cX12_next 163 = .ok (.getfield 124, 3) := by decide +kernel
theorem dX12_next_166 : decode cX12_next 166 = .ok (.iconst 1, 1) := by decide +kernel
theorem dX12_next_167 : decode cX12_next 167 = .ok (.iadd, 1) := by decide +kernel
theorem dX12_next_168 : decode cX12_next 168 = .ok (.putfield 124, 3) := by decide +kernel
theorem dX12_next_171 : decode cX12_next 171 = .ok (.goto (-68), 3) := by decide +kernel
theorem dX12_next_174 : decode cX12_next 174 = .ok (.iload_n 1, 1) := by decide +kernel
theorem dX12_next_175 : decode cX12_next 175 = .ok (.i2l, 1) := by decide +kernel
theorem dX12_next_176 : decode cX12_next 176 = .ok (.ldc2_w 151, 3) := by decide +kernel
theorem dX12_next_179 : decode cX12_next 179 = .ok (.ldc2_w 153, 3) := by decide +kernel
theorem dX12_next_182 : decode cX12_next 182 = .ok (.invokestatic 120, 3) := by decide +kernel
theorem dX12_next_185 : decode cX12_next 185 = .ok (.ifCond .eq 78, 3) := by decide +kernel
theorem dX12_next_188 : decode cX12_next 188 = .ok (.aload_n 0, 1) := by decide +kernel
theorem dX12_next_189 : decode cX12_next 189 = .ok (.iconst 2, 1) := by decide +kernel
theorem dX12_next_190 : decode cX12_next 190 = .ok (.putfield 144, 3) := by decide +kernel
theorem dX12_next_193 : decode cX12_next 193 = .ok (.aload_n 0, 1) := by decide +kernel
theorem dX12_next_194 : decode cX12_next 194 = .ok (.aload_n 0, 1) := by decide +kernel
theorem dX12_next_195 : decode cX12_next 195 = .ok (.getfield 124, 3) := by decide +kernel
theorem dX12_next_198 : decode cX12_next 198 = .ok (.invokevirtual 127, 3) := by decide +kernel
theorem dX12_next_201 : decode cX12_next 201 = .ok (.i2l, 1) := by decide +kernel
theorem dX12_next_202 : decode cX12_next 202 = .ok (.ldc2_w 151, 3) := by decide +kernel
theorem dX12_next_205 : decode cX12_next 205 = .ok (.ldc2_w 153, 3) := by decide +kernel
theorem dX12_next_208 : decode cX12_next 208 = .ok (.invokestatic 120, 3) := by decide +kernel
theorem dX12_next_211 : decode cX12_next 211 = .ok (.ifCond .eq 72, 3) := by decide +kernel
theorem dX12_next_214 : decode cX12_next 214 = .ok (.aload_n 0, 1) := by decide +kernel
theorem dX12_next_215 : decode cX12_next 215 = .ok (.getfield 124, 3) := by decide +kernel
theorem dX12_next_218 : decode cX12_next 218 = .ok (.aload_n 0, 1) := by decide +kernel
theorem dX12_next_219 : decode cX12_next 219 = .ok (.getfield 131, 3) := by decide +kernel
theorem dX12_next_222 : decode cX12_next 222 = .ok (.isub, 1) := by decide +kernel
theorem dX12_next_223 : decode cX12_next 223 = .ok (.iconst 3, 1) := by decide +kernel
theorem dX12_next_224 : decode cX12_next 224 = .ok (.if_icmp .ge 26, 3) := by decide +kernel
theorem dX12_next_227 : decode cX12_next 227 = .ok (.aload_n 0, 1) := by decide +kernel
theorem dX12_next_228 : decode cX12_next 228 = .ok (.bipush 10, 2) := by decide +kernel
theorem dX12_next_230 : decode cX12_next 230 = .ok (.aload_n 0, 1) := by decide +kernel
theorem dX12_next_231 : decode cX12_next 231 = .ok (.getfield 138, 3) := by decide +kernel
theorem dX12_next_234 : decode cX12_next 234 = .ok (.imul, 1) := by decide +kernel
theorem dX12_next_235 : decode cX12_next 235 = .ok (.aload_n 0, 1) := by decide +kernel
theorem dX12_next_236 : decode cX12_next 236 = .ok (.aload_n 0, 1) := by decide +kernel
theorem dX12_next_237 : decode cX12_next 237 = .ok (.getfield 124, 3) := by decide +kernel
theorem dX12_next_240 : decode cX12_next 240 = .ok (.invokevirtual 127, 3) := by decide +kernel
theorem dX12_next_243 : decode cX12_next 243 = .ok (.iadd, 1) := by decide +kernel
theorem dX12_next_244 : decode cX12_next 244 = .ok (.bipush 48, 2) := by decide +kernel
theorem dX12_next_246 : decode cX12_next 246 = .ok (.isub, 1) := by decide +kernel
theorem dX12_next_247 : decode cX12_next 247 = .ok (.putfield 138, 3) := by decide +kernel
theorem dX12_next_250 : decode cX12_next 250 = .ok (.aload_n 0, 1) := by decide +kernel
theorem dX12_next_251 : decode cX12_next 251 = .ok (.dup, 1) := by decide +kernel
theorem dX12_next_252 : decode cX12_next 252 = .ok (.getfield 124, 3) := by decide +kernel
theorem dX12_next_255 : decode cX12_next 255 = .ok (.iconst 1, 1) := by decide +kernel
theorem dX12_next_256 : decode cX12_next 256 = .ok (.iadd, 1) := by decide +kernel
theorem dX12_next_257 : decode cX12_next 257 = .ok (.putfield 124, 3) := by decide +kernel
theorem dX12_next_260 : decode cX12_next 260 = .ok (.goto (-67), 3) := by decide +kernel
theorem dX12_next_263 : decode cX12_next 263 = .ok (.aload_n 0, 1) := by decide +kernel
theorem dX12_next_264 : decode cX12_next 264 = .ok (.iconst 3, 1) := by decide +kernel
theorem dX12_next_265 : decode cX12_next 265 = .ok (.putfield 144, 3) := by decide +kernel
theorem dX12_next_268 : decode cX12_next 268 = .ok (.aload_n 0, 1) := by decide +kernel
theorem dX12_next_269 : decode cX12_next 269 = .ok (.iload_n 1, 1) := by decide +kernel
theorem dX12_next_270 : decode cX12_next 270 = .ok (.putfield 141, 3) := by decide +kernel
theorem dX12_next_273 : decode cX12_next 273 = .ok (.aload_n 0, 1) := by decide +kernel
theorem dX12_next_274 : decode cX12_next 274 = .ok (.dup, 1) := by decide +kernel
theorem dX12_next_275 : decode cX12_next 275 = .ok (.getfield 124, 3) := by decide +kernel
theorem dX12_next_278 : decode cX12_next 278 = .ok (.iconst 1, 1) := by decide +kernel
theorem dX12_next_279 : decode cX12_next 279 = .ok (.iadd, 1) := by decide +kernel
theorem dX12_next_280 : decode cX12_next 280 = .ok (.putfield 124, 3) := by decide +kernel
theorem dX12_next_283 : decode cX12_next 283 = .ok (.return_, 1) := by decide +kernel
theorem dX12_fails_0 : decode cX12_fails 0 = .ok (.aload_n 0, 1) := by decide +kernel
theorem dX12_fails_1 : decode cX12_fails 1 = .ok (.getfield 155, 3) := by decide +kernel
theorem dX12_fails_4 : decode cX12_fails 4 = .ok (.ifCond .ne 16, 3) := by decide +kernel
theorem dX12_fails_7 : decode cX12_fails 7 = .ok (.aload_n 0, 1) := by decide +kernel
theorem dX12_fails_8 : decode cX12_fails 8 = .ok (.iload_n 1, 1) := by decide +kernel
theorem dX12_fails_9 : decode cX12_fails 9 = .ok (.putfield 155, 3) := by decide +kernel
theorem dX12_fails_12 : decode cX12_fails 12 = .ok (.aload_n 0, 1) := by decide +kernel
theorem dX12_fails_13 : decode cX12_fails 13 = .ok (.aload_n 0, 1) := by decide +kernel
theorem dX12_fails_14 : decode cX12_fails 14 = .ok (.getfield 131, 3) := by decide +kernel
theorem dX12_fails_17 : decode cX12_fails 17 = .ok (.putfield 158, 3) := by decide +kernel
theorem dX12_fails_20 : decode cX12_fails 20 = .ok (.iconst 0, 1) := by decide +kernel
theorem dX12_fails_21 : decode cX12_fails 21 = .ok (.ireturn, 1) := by decide +kernel
theorem dX12_packed_0 : decode cX12_packed 0 = .ok (.lconst 0, 1) := by decide +kernel
theorem dX12_packed_1 : decode cX12_packed 1 = .ok (.lstore_n 1, 1) := by decide +kernel
theorem dX12_packed_2 : decode cX12_packed 2 = .ok (.iconst 0, 1) := by decide +kernel
theorem dX12_packed_3 : decode cX12_packed 3 = .ok (.istore_n 3, 1) := by decide +kernel
theorem dX12_packed_4 : decode cX12_packed 4 = .ok (.iload_n 3, 1) := by decide +kernel
theorem dX12_packed_5 : decode cX12_packed 5 = .ok (.aload_n 0, 1) := by decide +kernel
theorem dX12_packed_6 : decode cX12_packed 6 = .ok (.invokevirtual 161, 3) := by decide +kernel
theorem dX12_packed_9 : decode cX12_packed 9 = .ok (.if_icmp .ge 23, 3) := by decide +kernel
theorem dX12_packed_12 : decode cX12_packed 12 = .ok (.lload_n 1, 1) := by decide +kernel
theorem dX12_packed_13 : decode cX12_packed 13 = .ok (.iconst 5, 1) := by decide +kernel
theorem dX12_packed_14 : decode cX12_packed 14 = .ok (.lshl, 1) := by decide +kernel
theorem dX12_packed_15 : decode cX12_packed 15 = .ok (.aload_n 0, 1) := by decide +kernel
theorem dX12_packed_16 : decode cX12_packed 16 = .ok (.iload_n 3, 1) := by decide +kernel
theorem dX12_packed_17 : decode cX12_packed 17 = .ok (.invokevirtual 167, 3) := by decide +kernel
theorem dX12_packed_20 : decode cX12_packed 20 = .ok (.bipush 96, 2) := by decide +kernel
theorem dX12_packed_22 : decode cX12_packed 22 = .ok (.isub, 1) := by decide +kernel
theorem dX12_packed_23 : decode cX12_packed 23 = .ok (.i2l, 1) := by decide +kernel
theorem dX12_packed_24 : decode cX12_packed 24 = .ok (.lor, 1) := by decide +kernel
theorem dX12_packed_25 : decode cX12_packed 25 = .ok (.lstore_n 1, 1) := by decide +kernel
theorem dX12_packed_26 : decode cX12_packed 26 = .ok (.iinc 3 1, 3) := by decide +kernel
theorem dX12_packed_29 : decode cX12_packed 29 = .ok (.goto (-25), 3) := by decide +kernel
theorem dX12_packed_32 : decode cX12_packed 32 = .ok (.lload_n 1, 1) := by decide +kernel
theorem dX12_packed_33 : decode cX12_packed 33 = .ok (.lreturn, 1) := by decide +kernel
theorem dX12_isWord_0 : decode cX12_isWord 0 = .ok (.aload_n 0, 1) := by decide +kernel
theorem dX12_isWord_1 : decode cX12_isWord 1 = .ok (.getfield 144, 3) := by decide +kernel
theorem dX12_isWord_4 : decode cX12_isWord 4 = .ok (.iconst 1, 1) := by decide +kernel
theorem dX12_isWord_5 : decode cX12_isWord 5 = .ok (.if_icmp .ne 35, 3) := by decide +kernel
theorem dX12_isWord_8 : decode cX12_isWord 8 = .ok (.aload_n 0, 1) := by decide +kernel
theorem dX12_isWord_9 : decode cX12_isWord 9 = .ok (.getfield 124, 3) := by decide +kernel
theorem dX12_isWord_12 : decode cX12_isWord 12 = .ok (.aload_n 0, 1) := by decide +kernel
theorem dX12_isWord_13 : decode cX12_isWord 13 = .ok (.getfield 131, 3) := by decide +kernel
theorem dX12_isWord_16 : decode cX12_isWord 16 = .ok (.isub, 1) := by decide +kernel
theorem dX12_isWord_17 : decode cX12_isWord 17 = .ok (.aload_n 1, 1) := by decide +kernel
theorem dX12_isWord_18 : decode cX12_isWord 18 = .ok (.invokevirtual 161, 3) := by decide +kernel
theorem dX12_isWord_21 : decode cX12_isWord 21 = .ok (.if_icmp .ne 19, 3) := by decide +kernel
theorem dX12_isWord_24 : decode cX12_isWord 24 = .ok (.aload_n 0, 1) := by decide +kernel
theorem dX12_isWord_25 : decode cX12_isWord 25 = .ok (.getfield 134, 3) := by decide +kernel
theorem dX12_isWord_28 : decode cX12_isWord 28 = .ok (.aload_n 1, 1) := by decide +kernel
theorem dX12_isWord_29 : decode cX12_isWord 29 = .ok (.invokestatic 171, 3) := by decide +kernel
theorem dX12_isWord_32 : decode cX12_isWord 32 = .ok (.lcmp, 1) := by decide +kernel
theorem dX12_isWord_33 : decode cX12_isWord 33 = .ok (.ifCond .ne 7, 3) := by decide +kernel
theorem dX12_isWord_36 : decode cX12_isWord 36 = .ok (.iconst 1, 1) := by decide +kernel
theorem dX12_isWord_37 : decode cX12_isWord 37 = .ok (.goto 4, 3) := by decide +kernel
theorem dX12_isWord_40 : decode cX12_isWord 40 = .ok (.iconst 0, 1) := by decide +kernel
theorem dX12_isWord_41 : decode cX12_isWord 41 = .ok (.ireturn, 1) := by decide +kernel
theorem dX12_isName_0 : decode cX12_isName 0 = .ok (.aload_n 0, 1) := by decide +kernel
theorem dX12_isName_1 : decode cX12_isName 1 = .ok (.getfield 144, 3) := by decide +kernel
theorem dX12_isName_4 : decode cX12_isName 4 = .ok (.iconst 1, 1) := by decide +kernel
theorem dX12_isName_5 : decode cX12_isName 5 = .ok (.if_icmp .ne 84, 3) := by decide +kernel
theorem dX12_isName_8 : decode cX12_isName 8 = .ok (.aload_n 0, 1) := by decide +kernel
theorem dX12_isName_9 : decode cX12_isName 9 = .ok (.getfield 124, 3) := by decide +kernel
theorem dX12_isName_12 : decode cX12_isName 12 = .ok (.aload_n 0, 1) := by decide +kernel
theorem dX12_isName_13 : decode cX12_isName 13 = .ok (.getfield 131, 3) := by decide +kernel
theorem dX12_isName_16 : decode cX12_isName 16 = .ok (.isub, 1) := by decide +kernel
theorem dX12_isName_17 : decode cX12_isName 17 = .ok (.bipush 7, 2) := by decide +kernel
theorem dX12_isName_19 : decode cX12_isName 19 = .ok (.if_icmp .gt 70, 3) := by decide +kernel
theorem dX12_isName_22 : decode cX12_isName 22 = .ok (.aload_n 0, 1) := by decide +kernel
theorem dX12_isName_23 : decode cX12_isName 23 = .ok (.ldc 175, 2) := by decide +kernel
theorem dX12_isName_25 : decode cX12_isName 25 = .ok (.invokevirtual 176, 3) := by decide +kernel
theorem dX12_isName_28 : decode cX12_isName 28 = .ok (.ifCond .ne 61, 3) := by decide +kernel
theorem dX12_isName_31 : decode cX12_isName 31 = .ok (.aload_n 0, 1) := by decide +kernel
theorem dX12_isName_32 : decode cX12_isName 32 = .ok (.ldc 180, 2) := by decide +kernel
theorem dX12_isName_34 : decode cX12_isName 34 = .ok (.invokevirtual 176, 3) := by decide +kernel
theorem dX12_isName_37 : decode cX12_isName 37 = .ok (.ifCond .ne 52, 3) := by decide +kernel
theorem dX12_isName_40 : decode cX12_isName 40 = .ok (.aload_n 0, 1) := by decide +kernel
theorem dX12_isName_41 : decode cX12_isName 41 = .ok (.ldc 182, 2) := by decide +kernel
theorem dX12_isName_43 : decode cX12_isName 43 = .ok (.invokevirtual 176, 3) := by decide +kernel
theorem dX12_isName_46 : decode cX12_isName 46 = .ok (.ifCond .ne 43, 3) := by decide +kernel
theorem dX12_isName_49 : decode cX12_isName 49 = .ok (.aload_n 0, 1) := by decide +kernel
theorem dX12_isName_50 : decode cX12_isName 50 = .ok (.ldc 183, 2) := by decide +kernel
theorem dX12_isName_52 : decode cX12_isName 52 = .ok (.invokevirtual 176, 3) := by decide +kernel
theorem dX12_isName_55 : decode cX12_isName 55 = .ok (.ifCond .ne 34, 3) := by decide +kernel
theorem dX12_isName_58 : decode cX12_isName 58 = .ok (.aload_n 0, 1) := by decide +kernel
theorem dX12_isName_59 : decode cX12_isName 59 = .ok (.ldc 185, 2) := by decide +kernel
theorem dX12_isName_61 : decode cX12_isName 61 = .ok (.invokevirtual 176, 3) := by decide +kernel
theorem dX12_isName_64 : decode cX12_isName 64 = .ok (.ifCond .ne 25, 3) := by decide +kernel
theorem dX12_isName_67 : decode cX12_isName 67 = .ok (.aload_n 0, 1) := by decide +kernel
theorem dX12_isName_68 : decode cX12_isName 68 = .ok (.ldc 187, 2) := by decide +kernel
theorem dX12_isName_70 : decode cX12_isName 70 = .ok (.invokevirtual 176, 3) := by decide +kernel
theorem dX12_isName_73 : decode cX12_isName 73 = .ok (.ifCond .ne 16, 3) := by decide +kernel
theorem dX12_isName_76 : decode cX12_isName 76 = .ok (.aload_n 0, 1) := by decide +kernel
theorem dX12_isName_77 : decode cX12_isName 77 = .ok (.ldc 189, 2) := by decide +kernel
theorem dX12_isName_79 : decode cX12_isName 79 = .ok (.invokevirtual 176, 3) := by decide +kernel
theorem dX12_isName_82 : decode cX12_isName 82 = .ok (.ifCond .ne 7, 3) := by decide +kernel
theorem dX12_isName_85 : decode cX12_isName 85 = .ok (.iconst 1, 1) := by decide +kernel
theorem dX12_isName_86 : decode cX12_isName 86 = .ok (.goto 4, 3) := by decide +kernel
theorem dX12_isName_89 : decode cX12_isName 89 = .ok (.iconst 0, 1) := by decide +kernel
theorem dX12_isName_90 : decode cX12_isName 90 = .ok (.ireturn, 1) := by decide +kernel
theorem dX12_takes_0 : decode cX12_takes 0 = .ok (.aload_n 0, 1) := by decide +kernel
theorem dX12_takes_1 : decode cX12_takes 1 = .ok (.aload_n 1, 1) := by decide +kernel
theorem dX12_takes_2 : decode cX12_takes 2 = .ok (.invokevirtual 176, 3) := by decide +kernel
theorem dX12_takes_5 : decode cX12_takes 5 = .ok (.ifCond .ne 9, 3) := by decide +kernel
theorem dX12_takes_8 : decode cX12_takes 8 = .ok (.aload_n 0, 1) := by decide +kernel
theorem dX12_takes_9 : decode cX12_takes 9 = .ok (.iconst 1, 1) := by decide +kernel
theorem dX12_takes_10 : decode cX12_takes 10 = .ok (.invokevirtual 191, 3) := by decide +kernel
theorem dX12_takes_13 : decode cX12_takes 13 = .ok (.ireturn, 1) := by decide +kernel
theorem dX12_takes_14 : decode cX12_takes 14 = .ok (.aload_n 0, 1) := by decide +kernel
theorem dX12_takes_15 : decode cX12_takes 15 = .ok (.invokevirtual 195, 3) := by decide +kernel
theorem dX12_takes_18 : decode cX12_takes 18 = .ok (.iconst 1, 1) := by decide +kernel
theorem dX12_takes_19 : decode cX12_takes 19 = .ok (.ireturn, 1) := by decide +kernel
theorem dX12_takesSign_0 : decode cX12_takesSign 0 = .ok (.aload_n 0, 1) := by decide +kernel
theorem dX12_takesSign_1 : decode cX12_takesSign 1 = .ok (.getfield 144, 3) := by decide +kernel
theorem dX12_takesSign_4 : decode cX12_takesSign 4 = .ok (.iconst 3, 1) := by decide +kernel
theorem dX12_takesSign_5 : decode cX12_takesSign 5 = .ok (.if_icmp .ne 11, 3) := by decide +kernel
theorem dX12_takesSign_8 : decode cX12_takesSign 8 = .ok (.aload_n 0, 1) := by decide +kernel
theorem dX12_takesSign_9 : decode cX12_takesSign 9 = .ok (.getfield 141, 3) := by decide +kernel
theorem dX12_takesSign_12 : decode cX12_takesSign 12 = .ok (.iload_n 1, 1) := by decide +kernel
theorem dX12_takesSign_13 : decode cX12_takesSign 13 = .ok (.if_icmp .eq 9, 3) := by decide +kernel
theorem dX12_takesSign_16 : decode cX12_takesSign 16 = .ok (.aload_n 0, 1) := by decide +kernel
theorem dX12_takesSign_17 : decode cX12_takesSign 17 = .ok (.iconst 1, 1) := by decide +kernel
theorem dX12_takesSign_18 : decode cX12_takesSign 18 = .ok (.invokevirtual 191, 3) := by decide +kernel
theorem dX12_takesSign_21 : decode cX12_takesSign 21 = .ok (.ireturn, 1) := by decide +kernel
theorem dX12_takesSign_22 : decode cX12_takesSign 22 = .ok (.aload_n 0, 1) := by decide +kernel
theorem dX12_takesSign_23 : decode cX12_takesSign 23 = .ok (.invokevirtual 195, 3) := by decide +kernel
theorem dX12_takesSign_26 : decode cX12_takesSign 26 = .ok (.iconst 1, 1) := by decide +kernel
theorem dX12_takesSign_27 : decode cX12_takesSign 27 = .ok (.ireturn, 1) := by decide +kernel
theorem dX12_readNumber_0 : decode cX12_readNumber 0 = .ok (.aload_n 0, 1) := by decide +kernel
theorem dX12_readNumber_1 : decode cX12_readNumber 1 = .ok (.getfield 144, 3) := by decide +kernel
theorem dX12_readNumber_4 : decode cX12_readNumber 4 = .ok (.iconst 2, 1) := by decide +kernel
theorem dX12_readNumber_5 : decode cX12_readNumber 5 = .ok (.if_icmp .ne 16, 3) := by decide +kernel
theorem dX12_readNumber_8 : decode cX12_readNumber 8 = .ok (.aload_n 0, 1) := by decide +kernel
theorem dX12_readNumber_9 : decode cX12_readNumber 9 = .ok (.getfield 124, 3) := by decide +kernel
theorem dX12_readNumber_12 : decode cX12_readNumber 12 = .ok (.aload_n 0, 1) := by decide +kernel
theorem dX12_readNumber_13 : decode cX12_readNumber 13 = .ok (.getfield 131, 3) := by decide +kernel
theorem dX12_readNumber_16 : decode cX12_readNumber 16 = .ok (.isub, 1) := by decide +kernel
theorem dX12_readNumber_17 : decode cX12_readNumber 17 = .ok (.iconst 3, 1) := by decide +kernel
theorem dX12_readNumber_18 : decode cX12_readNumber 18 = .ok (.if_icmp .le 9, 3) := by decide +kernel
theorem dX12_readNumber_21 : decode cX12_readNumber 21 = .ok (.aload_n 0, 1) := by decide +kernel
theorem dX12_readNumber_22 : decode cX12_readNumber 22 = .ok (.iconst 1, 1) := by decide +kernel
theorem dX12_readNumber_23 : decode cX12_readNumber 23 = .ok (.invokevirtual 191, 3) := by decide +kernel
theorem dX12_readNumber_26 : decode cX12_readNumber 26 = .ok (.ireturn, 1) := by decide +kernel
theorem dX12_readNumber_27 : decode cX12_readNumber 27 = .ok (.aload_n 0, 1) := by decide +kernel
theorem dX12_readNumber_28 : decode cX12_readNumber 28 = .ok (.getfield 138, 3) := by decide +kernel
theorem dX12_readNumber_31 : decode cX12_readNumber 31 = .ok (.i2l, 1) := by decide +kernel
theorem dX12_readNumber_32 : decode cX12_readNumber 32 = .ok (.iload_n 1, 1) := by decide +kernel
theorem dX12_readNumber_33 : decode cX12_readNumber 33 = .ok (.i2l, 1) := by decide +kernel
theorem dX12_readNumber_34 : decode cX12_readNumber 34 = .ok (.iload_n 2, 1) := by decide +kernel
theorem dX12_readNumber_35 : decode cX12_readNumber 35 = .ok (.i2l, 1) := by decide +kernel
theorem dX12_readNumber_36 : decode cX12_readNumber 36 = .ok (.invokestatic 120, 3) := by decide +kernel
theorem dX12_readNumber_39 : decode cX12_readNumber 39 = .ok (.ifCond .ne 9, 3) := by decide +kernel
theorem dX12_readNumber_42 : decode cX12_readNumber 42 = .ok (.aload_n 0, 1) := by decide +kernel
theorem dX12_readNumber_43 : decode cX12_readNumber 43 = .ok (.iconst 3, 1) := by decide +kernel
theorem dX12_readNumber_44 : decode cX12_readNumber 44 = .ok (.invokevirtual 191, 3) := by decide +kernel
theorem dX12_readNumber_47 : decode cX12_readNumber 47 = .ok (.ireturn, 1) := by decide +kernel
theorem dX12_readNumber_48 : decode cX12_readNumber 48 = .ok (.aload_n 0, 1) := by decide +kernel
theorem dX12_readNumber_49 : decode cX12_readNumber 49 = .ok (.aload_n 0, 1) := by decide +kernel
theorem dX12_readNumber_50 : decode cX12_readNumber 50 = .ok (.getfield 138, 3) := by decide +kernel
theorem dX12_readNumber_53 : decode cX12_readNumber 53 = .ok (.putfield 198, 3) := by decide +kernel
theorem dX12_readNumber_56 : decode cX12_readNumber 56 = .ok (.aload_n 0, 1) := by decide +kernel
theorem dX12_readNumber_57 : decode cX12_readNumber 57 = .ok (.invokevirtual 195, 3) := by decide +kernel
theorem dX12_readNumber_60 : decode cX12_readNumber 60 = .ok (.iconst 1, 1) := by decide +kernel
theorem dX12_readNumber_61 : decode cX12_readNumber 61 = .ok (.ireturn, 1) := by decide +kernel
theorem dX12_placeOf_0 : decode cX12_placeOf 0 = .ok (.iconst 0, 1) := by decide +kernel
theorem dX12_placeOf_1 : decode cX12_placeOf 1 = .ok (.istore 5, 2) := by decide +kernel
theorem dX12_placeOf_3 : decode cX12_placeOf 3 = .ok (.iload 5, 2) := by decide +kernel
theorem dX12_placeOf_5 : decode cX12_placeOf 5 = .ok (.iload 4, 2) := by decide +kernel
theorem dX12_placeOf_7 : decode cX12_placeOf 7 = .ok (.if_icmp .ge 26, 3) := by decide +kernel
theorem dX12_placeOf_10 : decode cX12_placeOf 10 = .ok (.aload_n 0, 1) := by decide +kernel
theorem dX12_placeOf_11 : decode cX12_placeOf 11 = .ok (.getfield 13, 3) := by decide +kernel
theorem dX12_placeOf_14 : decode cX12_placeOf 14 = .ok (.iload_n 3, 1) := by decide +kernel
theorem dX12_placeOf_15 : decode cX12_placeOf 15 = .ok (.iload 5, 2) := by decide +kernel
theorem dX12_placeOf_17 : decode cX12_placeOf 17 = .ok (.iadd, 1) := by decide +kernel
theorem dX12_placeOf_18 : decode cX12_placeOf 18 = .ok (.laload, 1) := by decide +kernel
theorem dX12_placeOf_19 : decode cX12_placeOf 19 = .ok (.lload_n 1, 1) := by decide +kernel
theorem dX12_placeOf_20 : decode cX12_placeOf 20 = .ok (.lcmp, 1) := by decide +kernel
theorem dX12_placeOf_21 : decode cX12_placeOf 21 = .ok (.ifCond .ne 6, 3) := by decide +kernel
theorem dX12_placeOf_24 : decode cX12_placeOf 24 = .ok (.iload 5, 2) := by decide +kernel
theorem dX12_placeOf_26 : decode cX12_placeOf 26 = .ok (.ireturn, 1) := by decide +kernel
theorem dX12_placeOf_27 : decode cX12_placeOf 27 = .ok (.iinc 5 1, 3) := by decide +kernel
theorem dX12_placeOf_30 : decode cX12_placeOf 30 = .ok (.goto (-27), 3) := by decide +kernel
theorem dX12_placeOf_33 : decode cX12_placeOf 33 = .ok (.iconst (-1), 1) := by decide +kernel
theorem dX12_placeOf_34 : decode cX12_placeOf 34 = .ok (.ireturn, 1) := by decide +kernel
theorem dX12_lays_0 : decode cX12_lays 0 = .ok (.aload_n 0, 1) := by decide +kernel
theorem dX12_lays_1 : decode cX12_lays 1 = .ok (.iload_n 2, 1) := by decide +kernel
theorem dX12_lays_2 : decode cX12_lays 2 = .ok (.iload_n 3, 1) := by decide +kernel
theorem dX12_lays_3 : decode cX12_lays 3 = .ok (.invokevirtual 201, 3) := by decide +kernel
theorem dX12_lays_6 : decode cX12_lays 6 = .ok (.ifCond .ne 5, 3) := by decide +kernel
theorem dX12_lays_9 : decode cX12_lays 9 = .ok (.iconst 0, 1) := by decide +kernel
theorem dX12_lays_10 : decode cX12_lays 10 = .ok (.ireturn, 1) := by decide +kernel
theorem dX12_lays_11 : decode cX12_lays 11 = .ok (.aload_n 0, 1) := by decide +kernel
theorem dX12_lays_12 : decode cX12_lays 12 = .ok (.getfield 7, 3) := by decide +kernel
theorem dX12_lays_15 : decode cX12_lays 15 = .ok (.iload_n 1, 1) := by decide +kernel
theorem dX12_lays_16 : decode cX12_lays 16 = .ok (.aload_n 0, 1) := by decide +kernel
theorem dX12_lays_17 : decode cX12_lays 17 = .ok (.getfield 198, 3) := by decide +kernel
theorem dX12_lays_20 : decode cX12_lays 20 = .ok (.iastore, 1) := by decide +kernel
theorem dX12_lays_21 : decode cX12_lays 21 = .ok (.iconst 1, 1) := by decide +kernel
theorem dX12_lays_22 : decode cX12_lays 22 = .ok (.ireturn, 1) := by decide +kernel
theorem dX12_readLevel_0 : decode cX12_readLevel 0 = .ok (.aload_n 0, 1) := by decide +kernel
theorem dX12_readLevel_1 : decode cX12_readLevel 1 = .ok (.getfield 205, 3) := by decide +kernel
theorem dX12_readLevel_4 : decode cX12_readLevel 4 = .ok (.iconst 4, 1) := by decide +kernel
theorem dX12_readLevel_5 : decode cX12_readLevel 5 = .ok (.if_icmp .ne 9, 3) := by decide +kernel
theorem dX12_readLevel_8 : decode cX12_readLevel 8 = .ok (.aload_n 0, 1) := by decide +kernel
theorem dX12_readLevel_9 : decode cX12_readLevel 9 = .ok (.iconst 4, 1) := by decide +kernel
theorem dX12_readLevel_10 : decode cX12_readLevel 10 = .ok (.invokevirtual 191, 3) := by decide +kernel
theorem dX12_readLevel_13 : decode cX12_readLevel 13 = .ok (.ireturn, 1) := by decide +kernel
theorem dX12_readLevel_14 : decode cX12_readLevel 14 = .ok (.aload_n 0, 1) := by decide +kernel
theorem dX12_readLevel_15 : decode cX12_readLevel 15 = .ok (.invokevirtual 195, 3) := by decide +kernel
theorem dX12_readLevel_18 : decode cX12_readLevel 18 = .ok (.iconst 4, 1) := by decide +kernel
theorem dX12_readLevel_19 : decode cX12_readLevel 19 = .ok (.iconst 4, 1) := by decide +kernel
theorem dX12_readLevel_20 : decode cX12_readLevel 20 = .ok (.aload_n 0, 1) := by decide +kernel
theorem dX12_readLevel_21 : decode cX12_readLevel 21 = .ok (.getfield 205, 3) := by decide +kernel
theorem dX12_readLevel_24 : decode cX12_readLevel 24 = .ok (.iadd, 1) := by decide +kernel
theorem dX12_readLevel_25 : decode cX12_readLevel 25 = .ok (.imul, 1) := by decide +kernel
theorem dX12_readLevel_26 : decode cX12_readLevel 26 = .ok (.istore_n 1, 1) := by decide +kernel
theorem dX12_readLevel_27 : decode cX12_readLevel 27 = .ok (.aload_n 0, 1) := by decide +kernel
theorem dX12_readLevel_28 : decode cX12_readLevel 28 = .ok (.iload_n 1, 1) := by decide +kernel
theorem dX12_readLevel_29 : decode cX12_readLevel 29 = .ok (.iconst 0, 1) := by decide +kernel
theorem dX12_readLevel_30 : decode cX12_readLevel 30 = .ok (.iadd, 1) := by decide +kernel
theorem dX12_readLevel_31 : decode cX12_readLevel 31 = .ok (.iconst 1, 1) := by decide +kernel
theorem dX12_readLevel_32 : decode cX12_readLevel 32 = .ok (.iconst 3, 1) := by decide +kernel
theorem dX12_readLevel_33 : decode cX12_readLevel 33 = .ok (.invokevirtual 208, 3) := by decide +kernel
theorem dX12_readLevel_36 : decode cX12_readLevel 36 = .ok (.ifCond .eq 39, 3) := by decide +kernel
theorem dX12_readLevel_39 : decode cX12_readLevel 39 = .ok (.aload_n 0, 1) := by decide +kernel
theorem dX12_readLevel_40 : decode cX12_readLevel 40 = .ok (.ldc 180, 2) := by decide +kernel
theorem dX12_readLevel_42 : decode cX12_readLevel 42 = .ok (.invokevirtual 212, 3) := by decide +kernel
theorem dX12_readLevel_45 : decode cX12_readLevel 45 = .ok (.ifCond .eq 30, 3) := by decide +kernel
theorem dX12_readLevel_48 : decode cX12_readLevel 48 = .ok (.aload_n 0, 1) := by decide +kernel
theorem dX12_readLevel_49 : decode cX12_readLevel 49 = .ok (.iload_n 1, 1) := by decide +kernel
theorem dX12_readLevel_50 : decode cX12_readLevel 50 = .ok (.iconst 1, 1) := by decide +kernel
theorem dX12_readLevel_51 : decode cX12_readLevel 51 = .ok (.iadd, 1) := by decide +kernel
theorem dX12_readLevel_52 : decode cX12_readLevel 52 = .ok (.iconst 2, 1) := by decide +kernel
theorem dX12_readLevel_53 : decode cX12_readLevel 53 = .ok (.bipush 6, 2) := by decide +kernel
theorem dX12_readLevel_55 : decode cX12_readLevel 55 = .ok (.bipush 12, 2) := by decide +kernel
theorem dX12_readLevel_57 : decode cX12_readLevel 57 = .ok (.aload_n 0, 1) := by decide +kernel
theorem dX12_readLevel_58 : decode cX12_readLevel 58 = .ok (.getfield 7, 3) := by decide +kernel
theorem dX12_readLevel_61 : decode cX12_readLevel 61 = .ok (.iload_n 1, 1) := by decide +kernel
theorem dX12_readLevel_62 : decode cX12_readLevel 62 = .ok (.iconst 0, 1) := by decide +kernel
theorem dX12_readLevel_63 : decode cX12_readLevel 63 = .ok (.iadd, 1) := by decide +kernel
theorem dX12_readLevel_64 : decode cX12_readLevel 64 = .ok (.iaload, 1) := by decide +kernel
theorem dX12_readLevel_65 : decode cX12_readLevel 65 = .ok (.idiv, 1) := by decide +kernel
theorem dX12_readLevel_66 : decode cX12_readLevel 66 = .ok (.invokestatic 215, 3) := by decide +kernel
theorem dX12_readLevel_69 : decode cX12_readLevel 69 = .ok (.invokevirtual 208, 3) := by decide +kernel
theorem dX12_readLevel_72 : decode cX12_readLevel 72 = .ok (.ifCond .ne 5, 3) := by decide +kernel
theorem dX12_readLevel_75 : decode cX12_readLevel 75 = .ok (.iconst 0, 1) := by decide +kernel
theorem dX12_readLevel_76 : decode cX12_readLevel 76 = .ok (.ireturn, 1) := by decide +kernel
theorem dX12_readLevel_77 : decode cX12_readLevel 77 = .ok (.aload_n 0, 1) := by decide +kernel
theorem dX12_readLevel_78 : decode cX12_readLevel 78 = .ok (.ldc 182, 2) := by decide +kernel
theorem dX12_readLevel_80 : decode cX12_readLevel 80 = .ok (.invokevirtual 212, 3) := by decide +kernel
theorem dX12_readLevel_83 : decode cX12_readLevel 83 = .ok (.ifCond .eq 38, 3) := by decide +kernel
theorem dX12_readLevel_86 : decode cX12_readLevel 86 = .ok (.aload_n 0, 1) := by decide +kernel
theorem dX12_readLevel_87 : decode cX12_readLevel 87 = .ok (.iload_n 1, 1) := by decide +kernel
theorem dX12_readLevel_88 : decode cX12_readLevel 88 = .ok (.iconst 2, 1) := by decide +kernel
theorem dX12_readLevel_89 : decode cX12_readLevel 89 = .ok (.iadd, 1) := by decide +kernel
theorem dX12_readLevel_90 : decode cX12_readLevel 90 = .ok (.iconst 0, 1) := by decide +kernel
theorem dX12_readLevel_91 : decode cX12_readLevel 91 = .ok (.bipush 6, 2) := by decide +kernel
theorem dX12_readLevel_93 : decode cX12_readLevel 93 = .ok (.invokevirtual 208, 3) := by decide +kernel
theorem dX12_readLevel_96 : decode cX12_readLevel 96 = .ok (.ifCond .eq 25, 3) := by decide +kernel
theorem dX12_readLevel_99 : decode cX12_readLevel 99 = .ok (.aload_n 0, 1) := by decide +kernel
theorem dX12_readLevel_100 : decode cX12_readLevel 100 = .ok (.ldc 183, 2) := by decide +kernel
theorem dX12_readLevel_102 : decode cX12_readLevel 102 = .ok (.invokevirtual 212, 3) := by decide +kernel
theorem dX12_readLevel_105 : decode cX12_readLevel 105 = .ok (.ifCond .eq 16, 3) := by decide +kernel
theorem dX12_readLevel_108 : decode cX12_readLevel 108 = .ok (.aload_n 0, 1) := by decide +kernel
theorem dX12_readLevel_109 : decode cX12_readLevel 109 = .ok (.iload_n 1, 1) := by decide +kernel
theorem dX12_readLevel_110 : decode cX12_readLevel 110 = .ok (.iconst 3, 1) := by decide +kernel
theorem dX12_readLevel_111 : decode cX12_readLevel 111 = .ok (.iadd, 1) := by decide +kernel
theorem dX12_readLevel_112 : decode cX12_readLevel 112 = .ok (.iconst 0, 1) := by decide +kernel
theorem dX12_readLevel_113 : decode cX12_readLevel 113 = .ok (.bipush 9, 2) := by decide +kernel
theorem dX12_readLevel_115 : decode cX12_readLevel 115 = .ok (.invokevirtual 208, 3) := by decide +kernel
theorem dX12_readLevel_118 : decode cX12_readLevel 118 = .ok (.ifCond .ne 5, 3) := by decide +kernel
theorem dX12_readLevel_121 : decode cX12_readLevel 121 = .ok (.iconst 0, 1) := by decide +kernel
theorem dX12_readLevel_122 : decode cX12_readLevel 122 = .ok (.ireturn, 1) := by decide +kernel
theorem dX12_readLevel_123 : decode cX12_readLevel 123 = .ok (.aload_n 0, 1) := by decide +kernel
theorem dX12_readLevel_124 : decode cX12_readLevel 124 = .ok (.dup, 1) := by decide +kernel
theorem dX12_readLevel_125 : decode cX12_readLevel 125 = .ok (.getfield 205, 3) := by decide +kernel
theorem dX12_readLevel_128 : decode cX12_readLevel 128 = .ok (.iconst 1, 1) := by decide +kernel
theorem dX12_readLevel_129 : decode cX12_readLevel 129 = .ok (.iadd, 1) := by decide +kernel
theorem dX12_readLevel_130 : decode cX12_readLevel 130 = .ok (.putfield 205, 3) := by decide +kernel
theorem dX12_readLevel_133 : decode cX12_readLevel 133 = .ok (.iconst 1, 1) := by decide +kernel
theorem dX12_readLevel_134 : decode cX12_readLevel 134 = .ok (.ireturn, 1) := by decide +kernel
theorem dX12_readClub_0 : decode cX12_readClub 0 = .ok (.aload_n 0, 1) := by decide +kernel
theorem dX12_readClub_1 : decode cX12_readClub 1 = .ok (.getfield 221, 3) := by decide +kernel
theorem dX12_readClub_4 : decode cX12_readClub 4 = .ok (.bipush 30, 2) := by decide +kernel
theorem dX12_readClub_6 : decode cX12_readClub 6 = .ok (.if_icmp .ne 9, 3) := by decide +kernel
theorem dX12_readClub_9 : decode cX12_readClub 9 = .ok (.aload_n 0, 1) := by decide +kernel
theorem dX12_readClub_10 : decode cX12_readClub 10 = .ok (.iconst 4, 1) := by decide +kernel
theorem dX12_readClub_11 : decode cX12_readClub 11 = .ok (.invokevirtual 191, 3) := by decide +kernel
theorem dX12_readClub_14 : decode cX12_readClub 14 = .ok (.ireturn, 1) := by decide +kernel
theorem dX12_readClub_15 : decode cX12_readClub 15 = .ok (.aload_n 0, 1) := by decide +kernel
theorem dX12_readClub_16 : decode cX12_readClub 16 = .ok (.invokevirtual 195, 3) := by decide +kernel
theorem dX12_readClub_19 : decode cX12_readClub 19 = .ok (.bipush 30, 2) := by decide +kernel
theorem dX12_readClub_21 : decode cX12_readClub 21 = .ok (.aload_n 0, 1) := by decide +kernel
theorem dX12_readClub_22 : decode cX12_readClub 22 = .ok (.getfield 221, 3) := by decide +kernel
theorem dX12_readClub_25 : decode cX12_readClub 25 = .ok (.iadd, 1) := by decide +kernel
theorem dX12_readClub_26 : decode cX12_readClub 26 = .ok (.istore_n 1, 1) := by decide +kernel
theorem dX12_readClub_27 : decode cX12_readClub 27 = .ok (.aload_n 0, 1) := by decide +kernel
theorem dX12_readClub_28 : decode cX12_readClub 28 = .ok (.invokevirtual 224, 3) := by decide +kernel
theorem dX12_readClub_31 : decode cX12_readClub 31 = .ok (.ifCond .ne 9, 3) := by decide +kernel
theorem dX12_readClub_34 : decode cX12_readClub 34 = .ok (.aload_n 0, 1) := by decide +kernel
theorem dX12_readClub_35 : decode cX12_readClub 35 = .ok (.iconst 1, 1) := by decide +kernel
theorem dX12_readClub_36 : decode cX12_readClub 36 = .ok (.invokevirtual 191, 3) := by decide +kernel
theorem dX12_readClub_39 : decode cX12_readClub 39 = .ok (.ireturn, 1) := by decide +kernel
theorem dX12_readClub_40 : decode cX12_readClub 40 = .ok (.aload_n 0, 1) := by decide +kernel
theorem dX12_readClub_41 : decode cX12_readClub 41 = .ok (.aload_n 0, 1) := by decide +kernel
theorem dX12_readClub_42 : decode cX12_readClub 42 = .ok (.getfield 134, 3) := by decide +kernel
theorem dX12_readClub_45 : decode cX12_readClub 45 = .ok (.bipush 30, 2) := by decide +kernel
theorem dX12_readClub_47 : decode cX12_readClub 47 = .ok (.aload_n 0, 1) := by decide +kernel
theorem dX12_readClub_48 : decode cX12_readClub 48 = .ok (.getfield 221, 3) := by decide +kernel
theorem dX12_readClub_51 : decode cX12_readClub 51 = .ok (.invokevirtual 228, 3) := by decide +kernel
theorem dX12_readClub_54 : decode cX12_readClub 54 = .ok (.iconst (-1), 1) := by decide +kernel
theorem dX12_readClub_55 : decode cX12_readClub 55 = .ok (.if_icmp .eq 9, 3) := by decide +kernel
theorem dX12_readClub_58 : decode cX12_readClub 58 = .ok (.aload_n 0, 1) := by decide +kernel
theorem dX12_readClub_59 : decode cX12_readClub 59 = .ok (.iconst 2, 1) := by decide +kernel
theorem dX12_readClub_60 : decode cX12_readClub 60 = .ok (.invokevirtual 191, 3) := by decide +kernel
theorem dX12_readClub_63 : decode cX12_readClub 63 = .ok (.ireturn, 1) := by decide +kernel
theorem dX12_readClub_64 : decode cX12_readClub 64 = .ok (.aload_n 0, 1) := by decide +kernel
theorem dX12_readClub_65 : decode cX12_readClub 65 = .ok (.getfield 13, 3) := by decide +kernel
theorem dX12_readClub_68 : decode cX12_readClub 68 = .ok (.iload_n 1, 1) := by decide +kernel
theorem dX12_readClub_69 : decode cX12_readClub 69 = .ok (.aload_n 0, 1) := by decide +kernel
theorem dX12_readClub_70 : decode cX12_readClub 70 = .ok (.getfield 134, 3) := by decide +kernel
theorem dX12_readClub_73 : decode cX12_readClub 73 = .ok (.lastore, 1) := by decide +kernel
theorem dX12_readClub_74 : decode cX12_readClub 74 = .ok (.aload_n 0, 1) := by decide +kernel
theorem dX12_readClub_75 : decode cX12_readClub 75 = .ok (.invokevirtual 195, 3) := by decide +kernel
theorem dX12_readClub_78 : decode cX12_readClub 78 = .ok (.aload_n 0, 1) := by decide +kernel
theorem dX12_readClub_79 : decode cX12_readClub 79 = .ok (.iconst 0, 1) := by decide +kernel
theorem dX12_readClub_80 : decode cX12_readClub 80 = .ok (.bipush 99, 2) := by decide +kernel
theorem dX12_readClub_82 : decode cX12_readClub 82 = .ok (.invokevirtual 201, 3) := by decide +kernel
theorem dX12_readClub_85 : decode cX12_readClub 85 = .ok (.ifCond .ne 5, 3) := by decide +kernel
theorem dX12_readClub_88 : decode cX12_readClub 88 = .ok (.iconst 0, 1) := by decide +kernel
theorem dX12_readClub_89 : decode cX12_readClub 89 = .ok (.ireturn, 1) := by decide +kernel
theorem dX12_readClub_90 : decode cX12_readClub 90 = .ok (.aload_n 0, 1) := by decide +kernel
theorem dX12_readClub_91 : decode cX12_readClub 91 = .ok (.getfield 17, 3) := by decide +kernel
theorem dX12_readClub_94 : decode cX12_readClub 94 = .ok (.iload_n 1, 1) := by decide +kernel
theorem dX12_readClub_95 : decode cX12_readClub 95 = .ok (.aload_n 0, 1) := by decide +kernel
theorem dX12_readClub_96 : decode cX12_readClub 96 = .ok (.getfield 198, 3) := by decide +kernel
theorem dX12_readClub_99 : decode cX12_readClub 99 = .ok (.iastore, 1) := by decide +kernel
theorem dX12_readClub_100 : decode cX12_readClub 100 = .ok (.aload_n 0, 1) := by decide +kernel
theorem dX12_readClub_101 : decode cX12_readClub 101 = .ok (.iconst 0, 1) := by decide +kernel
theorem dX12_readClub_102 : decode cX12_readClub 102 = .ok (.bipush 99, 2) := by decide +kernel
theorem dX12_readClub_104 : decode cX12_readClub 104 = .ok (.invokevirtual 201, 3) := by decide +kernel
theorem dX12_readClub_107 : decode cX12_readClub 107 = .ok (.ifCond .ne 5, 3) := by decide +kernel
theorem dX12_readClub_110 : decode cX12_readClub 110 = .ok (.iconst 0, 1) := by decide +kernel
theorem dX12_readClub_111 : decode cX12_readClub 111 = .ok (.ireturn, 1) := by decide +kernel
theorem dX12_readClub_112 : decode cX12_readClub 112 = .ok (.aload_n 0, 1) := by decide +kernel
theorem dX12_readClub_113 : decode cX12_readClub 113 = .ok (.getfield 20, 3) := by decide +kernel
theorem dX12_readClub_116 : decode cX12_readClub 116 = .ok (.iload_n 1, 1) := by decide +kernel
theorem dX12_readClub_117 : decode cX12_readClub 117 = .ok (.aload_n 0, 1) := by decide +kernel
theorem dX12_readClub_118 : decode cX12_readClub 118 = .ok (.getfield 198, 3) := by decide +kernel
theorem dX12_readClub_121 : decode cX12_readClub 121 = .ok (.iastore, 1) := by decide +kernel
theorem dX12_readClub_122 : decode cX12_readClub 122 = .ok (.aload_n 0, 1) := by decide +kernel
theorem dX12_readClub_123 : decode cX12_readClub 123 = .ok (.ldc 187, 2) := by decide +kernel
theorem dX12_readClub_125 : decode cX12_readClub 125 = .ok (.invokevirtual 212, 3) := by decide +kernel
theorem dX12_readClub_128 : decode cX12_readClub 128 = .ok (.ifCond .eq 13, 3) := by decide +kernel
theorem dX12_readClub_131 : decode cX12_readClub 131 = .ok (.aload_n 0, 1) := by decide +kernel
theorem dX12_readClub_132 : decode cX12_readClub 132 = .ok (.iconst 0, 1) := by decide +kernel
theorem dX12_readClub_133 : decode cX12_readClub 133 = .ok (.bipush 9, 2) := by decide +kernel
theorem dX12_readClub_135 : decode cX12_readClub 135 = .ok (.invokevirtual 201, 3) := by decide +kernel
theorem dX12_readClub_138 : decode cX12_readClub 138 = .ok (.ifCond .ne 5, 3) := by decide +kernel
theorem dX12_readClub_141 : decode cX12_readClub 141 = .ok (.iconst 0, 1) := by decide +kernel
theorem dX12_readClub_142 : decode cX12_readClub 142 = .ok (.ireturn, 1) := by decide +kernel
theorem dX12_readClub_143 : decode cX12_readClub 143 = .ok (.aload_n 0, 1) := by decide +kernel
theorem dX12_readClub_144 : decode cX12_readClub 144 = .ok (.getfield 29, 3) := by decide +kernel
theorem dX12_readClub_147 : decode cX12_readClub 147 = .ok (.iload_n 1, 1) := by decide +kernel
theorem dX12_readClub_148 : decode cX12_readClub 148 = .ok (.aload_n 0, 1) := by decide +kernel
theorem dX12_readClub_149 : decode cX12_readClub 149 = .ok (.getfield 198, 3) := by decide +kernel
theorem dX12_readClub_152 : decode cX12_readClub 152 = .ok (.iastore, 1) := by decide +kernel
theorem dX12_readClub_153 : decode cX12_readClub 153 = .ok (.aload_n 0, 1) := by decide +kernel
theorem dX12_readClub_154 : decode cX12_readClub 154 = .ok (.getfield 23, 3) := by decide +kernel
theorem dX12_readClub_157 : decode cX12_readClub 157 = .ok (.iload_n 1, 1) := by decide +kernel
theorem dX12_readClub_158 : decode cX12_readClub 158 = .ok (.iconst (-1), 1) := by decide +kernel
theorem dX12_readClub_159 : decode cX12_readClub 159 = .ok (.iastore, 1) := by decide +kernel
theorem dX12_readClub_160 : decode cX12_readClub 160 = .ok (.aload_n 0, 1) := by decide +kernel
theorem dX12_readClub_161 : decode cX12_readClub 161 = .ok (.getfield 26, 3) := by decide +kernel
theorem dX12_readClub_164 : decode cX12_readClub 164 = .ok (.iload_n 1, 1) := by decide +kernel
theorem dX12_readClub_165 : decode cX12_readClub 165 = .ok (.iconst (-1), 1) := by decide +kernel
theorem dX12_readClub_166 : decode cX12_readClub 166 = .ok (.iastore, 1) := by decide +kernel
theorem dX12_readClub_167 : decode cX12_readClub 167 = .ok (.aload_n 0, 1) := by decide +kernel
theorem dX12_readClub_168 : decode cX12_readClub 168 = .ok (.ldc 189, 2) := by decide +kernel
theorem dX12_readClub_170 : decode cX12_readClub 170 = .ok (.invokevirtual 176, 3) := by decide +kernel
theorem dX12_readClub_173 : decode cX12_readClub 173 = .ok (.ifCond .eq 133, 3) := by decide +kernel
theorem dX12_readClub_176 : decode cX12_readClub 176 = .ok (.aload_n 0, 1) := by decide +kernel
theorem dX12_readClub_177 : decode cX12_readClub 177 = .ok (.invokevirtual 195, 3) := by decide +kernel
theorem dX12_readClub_180 : decode cX12_readClub 180 = .ok (.aload_n 0, 1) := by decide +kernel
theorem dX12_readClub_181 : decode cX12_readClub 181 = .ok (.iconst 0, 1) := by decide +kernel
theorem dX12_readClub_182 : decode cX12_readClub 182 = .ok (.aload_n 0, 1) := by decide +kernel
theorem dX12_readClub_183 : decode cX12_readClub 183 = .ok (.getfield 205, 3) := by decide +kernel
theorem dX12_readClub_186 : decode cX12_readClub 186 = .ok (.iconst 1, 1) := by decide +kernel
theorem dX12_readClub_187 : decode cX12_readClub 187 = .ok (.isub, 1) := by decide +kernel
theorem dX12_readClub_188 : decode cX12_readClub 188 = .ok (.invokevirtual 201, 3) := by decide +kernel
theorem dX12_readClub_191 : decode cX12_readClub 191 = .ok (.ifCond .ne 5, 3) := by decide +kernel
theorem dX12_readClub_194 : decode cX12_readClub 194 = .ok (.iconst 0, 1) := by decide +kernel
theorem dX12_readClub_195 : decode cX12_readClub 195 = .ok (.ireturn, 1) := by decide +kernel
theorem dX12_readClub_196 : decode cX12_readClub 196 = .ok (.aload_n 0, 1) := by decide +kernel
theorem dX12_readClub_197 : decode cX12_readClub 197 = .ok (.getfield 198, 3) := by decide +kernel
theorem dX12_readClub_200 : decode cX12_readClub 200 = .ok (.istore_n 2, 1) := by decide +kernel
theorem dX12_readClub_201 : decode cX12_readClub 201 = .ok (.iconst 4, 1) := by decide +kernel
theorem dX12_readClub_202 : decode cX12_readClub 202 = .ok (.iconst 4, 1) := by decide +kernel
theorem dX12_readClub_203 : decode cX12_readClub 203 = .ok (.iload_n 2, 1) := by decide +kernel
theorem dX12_readClub_204 : decode cX12_readClub 204 = .ok (.iadd, 1) := by decide +kernel
theorem dX12_readClub_205 : decode cX12_readClub 205 = .ok (.imul, 1) := by decide +kernel
theorem dX12_readClub_206 : decode cX12_readClub 206 = .ok (.istore_n 3, 1) := by decide +kernel
theorem dX12_readClub_207 : decode cX12_readClub 207 = .ok (.aload_n 0, 1) := by decide +kernel
theorem dX12_readClub_208 : decode cX12_readClub 208 = .ok (.getfield 144, 3) := by decide +kernel
theorem dX12_readClub_211 : decode cX12_readClub 211 = .ok (.iconst 2, 1) := by decide +kernel
theorem dX12_readClub_212 : decode cX12_readClub 212 = .ok (.if_icmp .ne 57, 3) := by decide +kernel
theorem dX12_readClub_215 : decode cX12_readClub 215 = .ok (.aload_n 0, 1) := by decide +kernel
theorem dX12_readClub_216 : decode cX12_readClub 216 = .ok (.getfield 124, 3) := by decide +kernel
theorem dX12_readClub_219 : decode cX12_readClub 219 = .ok (.aload_n 0, 1) := by decide +kernel
theorem dX12_readClub_220 : decode cX12_readClub 220 = .ok (.getfield 131, 3) := by decide +kernel
theorem dX12_readClub_223 : decode cX12_readClub 223 = .ok (.isub, 1) := by decide +kernel
theorem dX12_readClub_224 : decode cX12_readClub 224 = .ok (.iconst 3, 1) := by decide +kernel
theorem dX12_readClub_225 : decode cX12_readClub 225 = .ok (.if_icmp .gt 44, 3) := by decide +kernel
theorem dX12_readClub_228 : decode cX12_readClub 228 = .ok (.aload_n 0, 1) := by decide +kernel
theorem dX12_readClub_229 : decode cX12_readClub 229 = .ok (.getfield 138, 3) := by decide +kernel
theorem dX12_readClub_232 : decode cX12_readClub 232 = .ok (.aload_n 0, 1) := by decide +kernel
theorem dX12_readClub_233 : decode cX12_readClub 233 = .ok (.getfield 7, 3) := by decide +kernel
theorem dX12_readClub_236 : decode cX12_readClub 236 = .ok (.iload_n 3, 1) := by decide +kernel
theorem dX12_readClub_237 : decode cX12_readClub 237 = .ok (.iconst 0, 1) := by decide +kernel
theorem dX12_readClub_238 : decode cX12_readClub 238 = .ok (.iadd, 1) := by decide +kernel
theorem dX12_readClub_239 : decode cX12_readClub 239 = .ok (.iaload, 1) := by decide +kernel
theorem dX12_readClub_240 : decode cX12_readClub 240 = .ok (.if_icmp .ge 29, 3) := by decide +kernel
theorem dX12_readClub_243 : decode cX12_readClub 243 = .ok (.aload_n 0, 1) := by decide +kernel
theorem dX12_readClub_244 : decode cX12_readClub 244 = .ok (.iload_n 2, 1) := by decide +kernel
theorem dX12_readClub_245 : decode cX12_readClub 245 = .ok (.aload_n 0, 1) := by decide +kernel
theorem dX12_readClub_246 : decode cX12_readClub 246 = .ok (.getfield 138, 3) := by decide +kernel
theorem dX12_readClub_249 : decode cX12_readClub 249 = .ok (.invokevirtual 232, 3) := by decide +kernel
theorem dX12_readClub_252 : decode cX12_readClub 252 = .ok (.aload_n 0, 1) := by decide +kernel
theorem dX12_readClub_253 : decode cX12_readClub 253 = .ok (.getfield 7, 3) := by decide +kernel
theorem dX12_readClub_256 : decode cX12_readClub 256 = .ok (.iload_n 3, 1) := by decide +kernel
theorem dX12_readClub_257 : decode cX12_readClub 257 = .ok (.iconst 1, 1) := by decide +kernel
theorem dX12_readClub_258 : decode cX12_readClub 258 = .ok (.iadd, 1) := by decide +kernel
theorem dX12_readClub_259 : decode cX12_readClub 259 = .ok (.iaload, 1) := by decide +kernel
theorem dX12_readClub_260 : decode cX12_readClub 260 = .ok (.if_icmp .ne 9, 3) := by decide +kernel
theorem dX12_readClub_263 : decode cX12_readClub 263 = .ok (.aload_n 0, 1) := by decide +kernel
theorem dX12_readClub_264 : decode cX12_readClub 264 = .ok (.iconst 3, 1) := by decide +kernel
theorem dX12_readClub_265 : decode cX12_readClub 265 = .ok (.invokevirtual 191, 3) := by decide +kernel
theorem dX12_readClub_268 : decode cX12_readClub 268 = .ok (.ireturn, 1) := by decide +kernel
theorem dX12_readClub_269 : decode cX12_readClub 269 = .ok (.aload_n 0, 1) := by decide +kernel
theorem dX12_readClub_270 : decode cX12_readClub 270 = .ok (.iconst 0, 1) := by decide +kernel
theorem dX12_readClub_271 : decode cX12_readClub 271 = .ok (.aload_n 0, 1) := by decide +kernel
theorem dX12_readClub_272 : decode cX12_readClub 272 = .ok (.getfield 7, 3) := by decide +kernel
theorem dX12_readClub_275 : decode cX12_readClub 275 = .ok (.iload_n 3, 1) := by decide +kernel
theorem dX12_readClub_276 : decode cX12_readClub 276 = .ok (.iconst 0, 1) := by decide +kernel
theorem dX12_readClub_277 : decode cX12_readClub 277 = .ok (.iadd, 1) := by decide +kernel
theorem dX12_readClub_278 : decode cX12_readClub 278 = .ok (.iaload, 1) := by decide +kernel
theorem dX12_readClub_279 : decode cX12_readClub 279 = .ok (.iconst 1, 1) := by decide +kernel
theorem dX12_readClub_280 : decode cX12_readClub 280 = .ok (.isub, 1) := by decide +kernel
theorem dX12_readClub_281 : decode cX12_readClub 281 = .ok (.invokevirtual 201, 3) := by decide +kernel
theorem dX12_readClub_284 : decode cX12_readClub 284 = .ok (.ifCond .ne 5, 3) := by decide +kernel
theorem dX12_readClub_287 : decode cX12_readClub 287 = .ok (.iconst 0, 1) := by decide +kernel
theorem dX12_readClub_288 : decode cX12_readClub 288 = .ok (.ireturn, 1) := by decide +kernel
theorem dX12_readClub_289 : decode cX12_readClub 289 = .ok (.aload_n 0, 1) := by decide +kernel
theorem dX12_readClub_290 : decode cX12_readClub 290 = .ok (.getfield 23, 3) := by decide +kernel
theorem dX12_readClub_293 : decode cX12_readClub 293 = .ok (.iload_n 1, 1) := by decide +kernel
theorem dX12_readClub_294 : decode cX12_readClub 294 = .ok (.iload_n 2, 1) := by decide +kernel
theorem dX12_readClub_295 : decode cX12_readClub 295 = .ok (.iastore, 1) := by decide +kernel
theorem dX12_readClub_296 : decode cX12_readClub 296 = .ok (.aload_n 0, 1) := by decide +kernel
theorem dX12_readClub_297 : decode cX12_readClub 297 = .ok (.getfield 26, 3) := by decide +kernel
theorem dX12_readClub_300 : decode cX12_readClub 300 = .ok (.iload_n 1, 1) := by decide +kernel
theorem dX12_readClub_301 : decode cX12_readClub 301 = .ok (.aload_n 0, 1) := by decide +kernel
theorem dX12_readClub_302 : decode cX12_readClub 302 = .ok (.getfield 198, 3) := by decide +kernel
theorem dX12_readClub_305 : decode cX12_readClub 305 = .ok (.iastore, 1) := by decide +kernel
theorem dX12_readClub_306 : decode cX12_readClub 306 = .ok (.aload_n 0, 1) := by decide +kernel
theorem dX12_readClub_307 : decode cX12_readClub 307 = .ok (.dup, 1) := by decide +kernel
theorem dX12_readClub_308 : decode cX12_readClub 308 = .ok (.getfield 221, 3) := by decide +kernel
theorem dX12_readClub_311 : decode cX12_readClub 311 = .ok (.iconst 1, 1) := by decide +kernel
theorem dX12_readClub_312 : decode cX12_readClub 312 = .ok (.iadd, 1) := by decide +kernel
theorem dX12_readClub_313 : decode cX12_readClub 313 = .ok (.putfield 221, 3) := by decide +kernel
theorem dX12_readClub_316 : decode cX12_readClub 316 = .ok (.iconst 1, 1) := by decide +kernel
theorem dX12_readClub_317 : decode cX12_readClub 317 = .ok (.ireturn, 1) := by decide +kernel
theorem dX12_manyIn_0 : decode cX12_manyIn 0 = .ok (.iconst 0, 1) := by decide +kernel
theorem dX12_manyIn_1 : decode cX12_manyIn 1 = .ok (.istore_n 3, 1) := by decide +kernel
theorem dX12_manyIn_2 : decode cX12_manyIn 2 = .ok (.bipush 30, 2) := by decide +kernel
theorem dX12_manyIn_4 : decode cX12_manyIn 4 = .ok (.istore 4, 2) := by decide +kernel
theorem dX12_manyIn_6 : decode cX12_manyIn 6 = .ok (.iload 4, 2) := by decide +kernel
theorem dX12_manyIn_8 : decode cX12_manyIn 8 = .ok (.bipush 30, 2) := by decide +kernel
theorem dX12_manyIn_10 : decode cX12_manyIn 10 = .ok (.aload_n 0, 1) := by decide +kernel
theorem dX12_manyIn_11 : decode cX12_manyIn 11 = .ok (.getfield 221, 3) := by decide +kernel
theorem dX12_manyIn_14 : decode cX12_manyIn 14 = .ok (.iadd, 1) := by decide +kernel
theorem dX12_manyIn_15 : decode cX12_manyIn 15 = .ok (.if_icmp .ge 42, 3) := by decide +kernel
theorem dX12_manyIn_18 : decode cX12_manyIn 18 = .ok (.iload_n 3, 1) := by decide +kernel
theorem dX12_manyIn_19 : decode cX12_manyIn 19 = .ok (.aload_n 0, 1) := by decide +kernel
theorem dX12_manyIn_20 : decode cX12_manyIn 20 = .ok (.getfield 23, 3) := by decide +kernel
theorem dX12_manyIn_23 : decode cX12_manyIn 23 = .ok (.iload 4, 2) := by decide +kernel
theorem dX12_manyIn_25 : decode cX12_manyIn 25 = .ok (.iaload, 1) := by decide +kernel
theorem dX12_manyIn_26 : decode cX12_manyIn 26 = .ok (.iload_n 1, 1) := by decide +kernel
theorem dX12_manyIn_27 : decode cX12_manyIn 27 = .ok (.if_icmp .ne 18, 3) := by decide +kernel
theorem dX12_manyIn_30 : decode cX12_manyIn 30 = .ok (.aload_n 0, 1) := by decide +kernel
theorem dX12_manyIn_31 : decode cX12_manyIn 31 = .ok (.getfield 26, 3) := by decide +kernel
theorem dX12_manyIn_34 : decode cX12_manyIn 34 = .ok (.iload 4, 2) := by decide +kernel
theorem dX12_manyIn_36 : decode cX12_manyIn 36 = .ok (.iaload, 1) := by decide +kernel
theorem dX12_manyIn_37 : decode cX12_manyIn 37 = .ok (.iload_n 2, 1) := by decide +kernel
theorem dX12_manyIn_38 : decode cX12_manyIn 38 = .ok (.if_icmp .ne 7, 3) := by decide +kernel
theorem dX12_manyIn_41 : decode cX12_manyIn 41 = .ok (.iconst 1, 1) := by decide +kernel
theorem dX12_manyIn_42 : decode cX12_manyIn 42 = .ok (.goto 4, 3) := by decide +kernel
theorem dX12_manyIn_45 : decode cX12_manyIn 45 = .ok (.iconst 0, 1) := by decide +kernel
theorem dX12_manyIn_46 : decode cX12_manyIn 46 = .ok (.invokestatic 235, 3) := by decide +kernel
theorem dX12_manyIn_49 : decode cX12_manyIn 49 = .ok (.iadd, 1) := by decide +kernel
theorem dX12_manyIn_50 : decode cX12_manyIn 50 = .ok (.istore_n 3, 1) := by decide +kernel
theorem dX12_manyIn_51 : decode cX12_manyIn 51 = .ok (.iinc 4 1, 3) := by decide +kernel
theorem dX12_manyIn_54 : decode cX12_manyIn 54 = .ok (.goto (-48), 3) := by decide +kernel
theorem dX12_manyIn_57 : decode cX12_manyIn 57 = .ok (.iload_n 3, 1) := by decide +kernel
theorem dX12_manyIn_58 : decode cX12_manyIn 58 = .ok (.ireturn, 1) := by decide +kernel
theorem dX12_readLine_0 : decode cX12_readLine 0 = .ok (.aload_n 0, 1) := by decide +kernel
theorem dX12_readLine_1 : decode cX12_readLine 1 = .ok (.ldc 175, 2) := by decide +kernel
theorem dX12_readLine_3 : decode cX12_readLine 3 = .ok (.invokevirtual 176, 3) := by decide +kernel
theorem dX12_readLine_6 : decode cX12_readLine 6 = .ok (.ifCond .eq 10, 3) := by decide +kernel
theorem dX12_readLine_9 : decode cX12_readLine 9 = .ok (.aload_n 0, 1) := by decide +kernel
theorem dX12_readLine_10 : decode cX12_readLine 10 = .ok (.invokevirtual 239, 3) := by decide +kernel
theorem dX12_readLine_13 : decode cX12_readLine 13 = .ok (.goto 24, 3) := by decide +kernel
theorem dX12_readLine_16 : decode cX12_readLine 16 = .ok (.aload_n 0, 1) := by decide +kernel
theorem dX12_readLine_17 : decode cX12_readLine 17 = .ok (.ldc 185, 2) := by decide +kernel
theorem dX12_readLine_19 : decode cX12_readLine 19 = .ok (.invokevirtual 176, 3) := by decide +kernel
theorem dX12_readLine_22 : decode cX12_readLine 22 = .ok (.ifCond .eq 10, 3) := by decide +kernel
theorem dX12_readLine_25 : decode cX12_readLine 25 = .ok (.aload_n 0, 1) := by decide +kernel
theorem dX12_readLine_26 : decode cX12_readLine 26 = .ok (.invokevirtual 242, 3) := by decide +kernel
theorem dX12_readLine_29 : decode cX12_readLine 29 = .ok (.goto 8, 3) := by decide +kernel
theorem dX12_readLine_32 : decode cX12_readLine 32 = .ok (.aload_n 0, 1) := by decide +kernel
theorem dX12_readLine_33 : decode cX12_readLine 33 = .ok (.iconst 1, 1) := by decide +kernel
theorem dX12_readLine_34 : decode cX12_readLine 34 = .ok (.invokevirtual 191, 3) := by decide +kernel
theorem dX12_readLine_37 : decode cX12_readLine 37 = .ok (.istore_n 1, 1) := by decide +kernel
theorem dX12_readLine_38 : decode cX12_readLine 38 = .ok (.iload_n 1, 1) := by decide +kernel
theorem dX12_readLine_39 : decode cX12_readLine 39 = .ok (.ifCond .eq 16, 3) := by decide +kernel
theorem dX12_readLine_42 : decode cX12_readLine 42 = .ok (.aload_n 0, 1) := by decide +kernel
theorem dX12_readLine_43 : decode cX12_readLine 43 = .ok (.bipush 59, 2) := by decide +kernel
theorem dX12_readLine_45 : decode cX12_readLine 45 = .ok (.invokevirtual 245, 3) := by decide +kernel
theorem dX12_readLine_48 : decode cX12_readLine 48 = .ok (.ifCond .eq 7, 3) := by decide +kernel
theorem dX12_readLine_51 : decode cX12_readLine 51 = .ok (.iconst 1, 1) := by decide +kernel
theorem dX12_readLine_52 : decode cX12_readLine 52 = .ok (.goto 4, 3) := by decide +kernel
theorem dX12_readLine_55 : decode cX12_readLine 55 = .ok (.iconst 0, 1) := by decide +kernel
theorem dX12_readLine_56 : decode cX12_readLine 56 = .ok (.ireturn, 1) := by decide +kernel
theorem dX12_begins_0 : decode cX12_begins 0 = .ok (.aload_n 0, 1) := by decide +kernel
theorem dX12_begins_1 : decode cX12_begins 1 = .ok (.iconst 0, 1) := by decide +kernel
theorem dX12_begins_2 : decode cX12_begins 2 = .ok (.putfield 124, 3) := by decide +kernel
theorem dX12_begins_5 : decode cX12_begins 5 = .ok (.aload_n 0, 1) := by decide +kernel
theorem dX12_begins_6 : decode cX12_begins 6 = .ok (.iconst 0, 1) := by decide +kernel
theorem dX12_begins_7 : decode cX12_begins 7 = .ok (.putfield 155, 3) := by decide +kernel
theorem dX12_begins_10 : decode cX12_begins 10 = .ok (.aload_n 0, 1) := by decide +kernel
theorem dX12_begins_11 : decode cX12_begins 11 = .ok (.iconst (-1), 1) := by decide +kernel
theorem dX12_begins_12 : decode cX12_begins 12 = .ok (.putfield 158, 3) := by decide +kernel
theorem dX12_begins_15 : decode cX12_begins 15 = .ok (.aload_n 0, 1) := by decide +kernel
theorem dX12_begins_16 : decode cX12_begins 16 = .ok (.invokevirtual 195, 3) := by decide +kernel
theorem dX12_begins_19 : decode cX12_begins 19 = .ok (.return_, 1) := by decide +kernel
theorem dX12_isRead_0 : decode cX12_isRead 0 = .ok (.aload_n 0, 1) := by decide +kernel
theorem dX12_isRead_1 : decode cX12_isRead 1 = .ok (.iconst 0, 1) := by decide +kernel
theorem dX12_isRead_2 : decode cX12_isRead 2 = .ok (.putfield 113, 3) := by decide +kernel
theorem dX12_isRead_5 : decode cX12_isRead 5 = .ok (.aload_n 0, 1) := by decide +kernel
theorem dX12_isRead_6 : decode cX12_isRead 6 = .ok (.aload_n 0, 1) := by decide +kernel
theorem dX12_isRead_7 : decode cX12_isRead 7 = .ok (.getfield 155, 3) := by decide +kernel
theorem dX12_isRead_10 : decode cX12_isRead 10 = .ok (.putfield 248, 3) := by decide +kernel
theorem dX12_isRead_13 : decode cX12_isRead 13 = .ok (.aload_n 0, 1) := by decide +kernel
theorem dX12_isRead_14 : decode cX12_isRead 14 = .ok (.aload_n 0, 1) := by decide +kernel
theorem dX12_isRead_15 : decode cX12_isRead 15 = .ok (.getfield 158, 3) := by decide +kernel
theorem dX12_isRead_18 : decode cX12_isRead 18 = .ok (.putfield 41, 3) := by decide +kernel
theorem dX12_isRead_21 : decode cX12_isRead 21 = .ok (.aload_n 0, 1) := by decide +kernel
theorem dX12_isRead_22 : decode cX12_isRead 22 = .ok (.getfield 155, 3) := by decide +kernel
theorem dX12_isRead_25 : decode cX12_isRead 25 = .ok (.ifCond .ne 7, 3) := by decide +kernel
theorem dX12_isRead_28 : decode cX12_isRead 28 = .ok (.iconst 1, 1) := by decide +kernel
theorem dX12_isRead_29 : decode cX12_isRead 29 = .ok (.goto 4, 3) := by decide +kernel
theorem dX12_isRead_32 : decode cX12_isRead 32 = .ok (.iconst 0, 1) := by decide +kernel
theorem dX12_isRead_33 : decode cX12_isRead 33 = .ok (.ireturn, 1) := by decide +kernel
theorem dX12_pyramid_0 : decode cX12_pyramid 0 = .ok (.aload_n 0, 1) := by decide +kernel
theorem dX12_pyramid_1 : decode cX12_pyramid 1 = .ok (.iconst 0, 1) := by decide +kernel
theorem dX12_pyramid_2 : decode cX12_pyramid 2 = .ok (.putfield 205, 3) := by decide +kernel
theorem dX12_pyramid_5 : decode cX12_pyramid 5 = .ok (.aload_n 0, 1) := by decide +kernel
theorem dX12_pyramid_6 : decode cX12_pyramid 6 = .ok (.iconst 0, 1) := by decide +kernel
theorem dX12_pyramid_7 : decode cX12_pyramid 7 = .ok (.putfield 221, 3) := by decide +kernel
theorem dX12_pyramid_10 : decode cX12_pyramid 10 = .ok (.aload_n 0, 1) := by decide +kernel
theorem dX12_pyramid_11 : decode cX12_pyramid 11 = .ok (.invokevirtual 251, 3) := by decide +kernel
theorem dX12_pyramid_14 : decode cX12_pyramid 14 = .ok (.aload_n 0, 1) := by decide +kernel
theorem dX12_pyramid_15 : decode cX12_pyramid 15 = .ok (.getfield 144, 3) := by decide +kernel
theorem dX12_pyramid_18 : decode cX12_pyramid 18 = .ok (.ifCond .eq 7, 3) := by decide +kernel
theorem dX12_pyramid_21 : decode cX12_pyramid 21 = .ok (.iconst 1, 1) := by decide +kernel
theorem dX12_pyramid_22 : decode cX12_pyramid 22 = .ok (.goto 4, 3) := by decide +kernel
theorem dX12_pyramid_25 : decode cX12_pyramid 25 = .ok (.iconst 0, 1) := by decide +kernel
theorem dX12_pyramid_26 : decode cX12_pyramid 26 = .ok (.istore_n 1, 1) := by decide +kernel
theorem dX12_pyramid_27 : decode cX12_pyramid 27 = .ok (.iload_n 1, 1) := by decide +kernel
theorem dX12_pyramid_28 : decode cX12_pyramid 28 = .ok (.ifCond .eq 26, 3) := by decide +kernel
theorem dX12_pyramid_31 : decode cX12_pyramid 31 = .ok (.aload_n 0, 1) := by decide +kernel
theorem dX12_pyramid_32 : decode cX12_pyramid 32 = .ok (.invokevirtual 254, 3) := by decide +kernel
theorem dX12_pyramid_35 : decode cX12_pyramid 35 = .ok (.ifCond .eq 14, 3) := by decide +kernel
theorem dX12_pyramid_38 : decode cX12_pyramid 38 = .ok (.aload_n 0, 1) := by decide +kernel
theorem dX12_pyramid_39 : decode cX12_pyramid 39 = .ok (.getfield 144, 3) := by decide +kernel
theorem dX12_pyramid_42 : decode cX12_pyramid 42 = .ok (.ifCond .eq 7, 3) := by decide +kernel
theorem dX12_pyramid_45 : decode cX12_pyramid 45 = .ok (.iconst 1, 1) := by decide +kernel
theorem dX12_pyramid_46 : decode cX12_pyramid 46 = .ok (.goto 4, 3) := by decide +kernel
theorem dX12_pyramid_49 : decode cX12_pyramid 49 = .ok (.iconst 0, 1) := by decide +kernel
theorem dX12_pyramid_50 : decode cX12_pyramid 50 = .ok (.istore_n 1, 1) := by decide +kernel
theorem dX12_pyramid_51 : decode cX12_pyramid 51 = .ok (.goto (-24), 3) := by decide +kernel
theorem dX12_pyramid_54 : decode cX12_pyramid 54 = .ok (.iconst 0, 1) := by decide +kernel
theorem dX12_pyramid_55 : decode cX12_pyramid 55 = .ok (.istore_n 2, 1) := by decide +kernel
theorem dX12_pyramid_56 : decode cX12_pyramid 56 = .ok (.iload_n 2, 1) := by decide +kernel
theorem dX12_pyramid_57 : decode cX12_pyramid 57 = .ok (.aload_n 0, 1) := by decide +kernel
theorem dX12_pyramid_58 : decode cX12_pyramid 58 = .ok (.getfield 205, 3) := by decide +kernel
theorem dX12_pyramid_61 : decode cX12_pyramid 61 = .ok (.if_icmp .ge 67, 3) := by decide +kernel
theorem dX12_pyramid_64 : decode cX12_pyramid 64 = .ok (.aload_n 0, 1) := by decide +kernel
theorem dX12_pyramid_65 : decode cX12_pyramid 65 = .ok (.getfield 155, 3) := by decide +kernel
theorem dX12_pyramid_68 : decode cX12_pyramid 68 = .ok (.ifCond .ne 60, 3) := by decide +kernel
theorem dX12_pyramid_71 : decode cX12_pyramid 71 = .ok (.iconst 0, 1) := by decide +kernel
theorem dX12_pyramid_72 : decode cX12_pyramid 72 = .ok (.istore_n 3, 1) := by decide +kernel
theorem dX12_pyramid_73 : decode cX12_pyramid 73 = .ok (.iload_n 3, 1) := by decide +kernel
theorem dX12_pyramid_74 : decode cX12_pyramid 74 = .ok (.aload_n 0, 1) := by decide +kernel
theorem dX12_pyramid_75 : decode cX12_pyramid 75 = .ok (.getfield 7, 3) := by decide +kernel
theorem dX12_pyramid_78 : decode cX12_pyramid 78 = .ok (.iconst 4, 1) := by decide +kernel
theorem dX12_pyramid_79 : decode cX12_pyramid 79 = .ok (.iconst 4, 1) := by decide +kernel
theorem dX12_pyramid_80 : decode cX12_pyramid 80 = .ok (.iload_n 2, 1) := by decide +kernel
theorem dX12_pyramid_81 : decode cX12_pyramid 81 = .ok (.iadd, 1) := by decide +kernel
theorem dX12_pyramid_82 : decode cX12_pyramid 82 = .ok (.imul, 1) := by decide +kernel
theorem dX12_pyramid_83 : decode cX12_pyramid 83 = .ok (.iconst 0, 1) := by decide +kernel
theorem dX12_pyramid_84 : decode cX12_pyramid 84 = .ok (.iadd, 1) := by decide +kernel
theorem dX12_pyramid_85 : decode cX12_pyramid 85 = .ok (.iaload, 1) := by decide +kernel
theorem dX12_pyramid_86 : decode cX12_pyramid 86 = .ok (.if_icmp .ge 36, 3) := by decide +kernel
theorem dX12_pyramid_89 : decode cX12_pyramid 89 = .ok (.aload_n 0, 1) := by decide +kernel
theorem dX12_pyramid_90 : decode cX12_pyramid 90 = .ok (.iload_n 2, 1) := by decide +kernel
theorem dX12_pyramid_91 : decode cX12_pyramid 91 = .ok (.iload_n 3, 1) := by decide +kernel
theorem dX12_pyramid_92 : decode cX12_pyramid 92 = .ok (.invokevirtual 232, 3) := by decide +kernel
theorem dX12_pyramid_95 : decode cX12_pyramid 95 = .ok (.aload_n 0, 1) := by decide +kernel
theorem dX12_pyramid_96 : decode cX12_pyramid 96 = .ok (.getfield 7, 3) := by decide +kernel
theorem dX12_pyramid_99 : decode cX12_pyramid 99 = .ok (.iconst 4, 1) := by decide +kernel
theorem dX12_pyramid_100 : decode cX12_pyramid 100 = .ok (.iconst 4, 1) := by decide +kernel
theorem dX12_pyramid_101 : decode cX12_pyramid 101 = .ok (.iload_n 2, 1) := by decide +kernel
theorem dX12_pyramid_102 : decode cX12_pyramid 102 = .ok (.iadd, 1) := by decide +kernel
theorem dX12_pyramid_103 : decode cX12_pyramid 103 = .ok (.imul, 1) := by decide +kernel
theorem dX12_pyramid_104 : decode cX12_pyramid 104 = .ok (.iconst 1, 1) := by decide +kernel
theorem dX12_pyramid_105 : decode cX12_pyramid 105 = .ok (.iadd, 1) := by decide +kernel
theorem dX12_pyramid_106 : decode cX12_pyramid 106 = .ok (.iaload, 1) := by decide +kernel
theorem dX12_pyramid_107 : decode cX12_pyramid 107 = .ok (.if_icmp .ge 9, 3) := by decide +kernel
theorem dX12_pyramid_110 : decode cX12_pyramid 110 = .ok (.aload_n 0, 1) := by decide +kernel
theorem dX12_pyramid_111 : decode cX12_pyramid 111 = .ok (.iconst 5, 1) := by decide +kernel
theorem dX12_pyramid_112 : decode cX12_pyramid 112 = .ok (.invokevirtual 191, 3) := by decide +kernel
theorem dX12_pyramid_115 : decode cX12_pyramid 115 = .ok (.pop, 1) := by decide +kernel
theorem dX12_pyramid_116 : decode cX12_pyramid 116 = .ok (.iinc 3 1, 3) := by decide +kernel
theorem dX12_pyramid_119 : decode cX12_pyramid 119 = .ok (.goto (-46), 3) := by decide +kernel
theorem dX12_pyramid_122 : decode cX12_pyramid 122 = .ok (.iinc 2 1, 3) := by decide +kernel
theorem dX12_pyramid_125 : decode cX12_pyramid 125 = .ok (.goto (-69), 3) := by decide +kernel
theorem dX12_pyramid_128 : decode cX12_pyramid 128 = .ok (.aload_n 0, 1) := by decide +kernel
theorem dX12_pyramid_129 : decode cX12_pyramid 129 = .ok (.invokevirtual 257, 3) := by decide +kernel
theorem dX12_pyramid_132 : decode cX12_pyramid 132 = .ok (.ifCond .ne 5, 3) := by decide +kernel
theorem dX12_pyramid_135 : decode cX12_pyramid 135 = .ok (.iconst (-1), 1) := by decide +kernel
theorem dX12_pyramid_136 : decode cX12_pyramid 136 = .ok (.ireturn, 1) := by decide +kernel
theorem dX12_pyramid_137 : decode cX12_pyramid 137 = .ok (.aload_n 0, 1) := by decide +kernel
theorem dX12_pyramid_138 : decode cX12_pyramid 138 = .ok (.aload_n 0, 1) := by decide +kernel
theorem dX12_pyramid_139 : decode cX12_pyramid 139 = .ok (.getfield 205, 3) := by decide +kernel
theorem dX12_pyramid_142 : decode cX12_pyramid 142 = .ok (.putfield 260, 3) := by decide +kernel
theorem dX12_pyramid_145 : decode cX12_pyramid 145 = .ok (.aload_n 0, 1) := by decide +kernel
theorem dX12_pyramid_146 : decode cX12_pyramid 146 = .ok (.aload_n 0, 1) := by decide +kernel
theorem dX12_pyramid_147 : decode cX12_pyramid 147 = .ok (.getfield 221, 3) := by decide +kernel
theorem dX12_pyramid_150 : decode cX12_pyramid 150 = .ok (.putfield 263, 3) := by decide +kernel
theorem dX12_pyramid_153 : decode cX12_pyramid 153 = .ok (.aload_n 0, 1) := by decide +kernel
theorem dX12_pyramid_154 : decode cX12_pyramid 154 = .ok (.iconst 0, 1) := by decide +kernel
theorem dX12_pyramid_155 : decode cX12_pyramid 155 = .ok (.putfield 266, 3) := by decide +kernel
theorem dX12_pyramid_158 : decode cX12_pyramid 158 = .ok (.iconst 0, 1) := by decide +kernel
theorem dX12_pyramid_159 : decode cX12_pyramid 159 = .ok (.istore_n 2, 1) := by decide +kernel
theorem dX12_pyramid_160 : decode cX12_pyramid 160 = .ok (.iload_n 2, 1) := by decide +kernel
theorem dX12_pyramid_161 : decode cX12_pyramid 161 = .ok (.bipush 16, 2) := by decide +kernel
theorem dX12_pyramid_163 : decode cX12_pyramid 163 = .ok (.if_icmp .ge 24, 3) := by decide +kernel
theorem dX12_pyramid_166 : decode cX12_pyramid 166 = .ok (.aload_n 0, 1) := by decide +kernel
theorem dX12_pyramid_167 : decode cX12_pyramid 167 = .ok (.getfield 7, 3) := by decide +kernel
theorem dX12_pyramid_170 : decode cX12_pyramid 170 = .ok (.iload_n 2, 1) := by decide +kernel
theorem dX12_pyramid_171 : decode cX12_pyramid 171 = .ok (.aload_n 0, 1) := by decide +kernel
theorem dX12_pyramid_172 : decode cX12_pyramid 172 = .ok (.getfield 7, 3) := by decide +kernel
theorem dX12_pyramid_175 : decode cX12_pyramid 175 = .ok (.bipush 16, 2) := by decide +kernel
theorem dX12_pyramid_177 : decode cX12_pyramid 177 = .ok (.iload_n 2, 1) := by decide +kernel
theorem dX12_pyramid_178 : decode cX12_pyramid 178 = .ok (.iadd, 1) := by decide +kernel
theorem dX12_pyramid_179 : decode cX12_pyramid 179 = .ok (.iaload, 1) := by decide +kernel
theorem dX12_pyramid_180 : decode cX12_pyramid 180 = .ok (.iastore, 1) := by decide +kernel
theorem dX12_pyramid_181 : decode cX12_pyramid 181 = .ok (.iinc 2 1, 3) := by decide +kernel
theorem dX12_pyramid_184 : decode cX12_pyramid 184 = .ok (.goto (-24), 3) := by decide +kernel
theorem dX12_pyramid_187 : decode cX12_pyramid 187 = .ok (.iconst 0, 1) := by decide +kernel
theorem dX12_pyramid_188 : decode cX12_pyramid 188 = .ok (.istore_n 2, 1) := by decide +kernel
theorem dX12_pyramid_189 : decode cX12_pyramid 189 = .ok (.iload_n 2, 1) := by decide +kernel
theorem dX12_pyramid_190 : decode cX12_pyramid 190 = .ok (.bipush 30, 2) := by decide +kernel
theorem dX12_pyramid_192 : decode cX12_pyramid 192 = .ok (.if_icmp .ge 101, 3) := by decide +kernel
theorem dX12_pyramid_195 : decode cX12_pyramid 195 = .ok (.aload_n 0, 1) := by decide +kernel
theorem dX12_pyramid_196 : decode cX12_pyramid 196 = .ok (.getfield 13, 3) := by decide +kernel
theorem dX12_pyramid_199 : decode cX12_pyramid 199 = .ok (.iload_n 2, 1) := by decide +kernel
theorem dX12_pyramid_200 : decode cX12_pyramid 200 = .ok (.aload_n 0, 1) := by decide +kernel
theorem dX12_pyramid_201 : decode cX12_pyramid 201 = .ok (.getfield 13, 3) := by decide +kernel
theorem dX12_pyramid_204 : decode cX12_pyramid 204 = .ok (.bipush 30, 2) := by decide +kernel
theorem dX12_pyramid_206 : decode cX12_pyramid 206 = .ok (.iload_n 2, 1) := by decide +kernel
theorem dX12_pyramid_207 : decode cX12_pyramid 207 = .ok (.iadd, 1) := by decide +kernel
theorem dX12_pyramid_208 : decode cX12_pyramid 208 = .ok (.laload, 1) := by decide +kernel
theorem dX12_pyramid_209 : decode cX12_pyramid 209 = .ok (.lastore, 1) := by decide +kernel
theorem dX12_pyramid_210 : decode cX12_pyramid 210 = .ok (.aload_n 0, 1) := by decide +kernel
theorem dX12_pyramid_211 : decode cX12_pyramid 211 = .ok (.getfield 17, 3) := by decide +kernel
theorem dX12_pyramid_214 : decode cX12_pyramid 214 = .ok (.iload_n 2, 1) := by decide +kernel
theorem dX12_pyramid_215 : decode cX12_pyramid 215 = .ok (.aload_n 0, 1) := by decide +kernel
theorem dX12_pyramid_216 : decode cX12_pyramid 216 = .ok (.getfield 17, 3) := by decide +kernel
theorem dX12_pyramid_219 : decode cX12_pyramid 219 = .ok (.bipush 30, 2) := by decide +kernel
theorem dX12_pyramid_221 : decode cX12_pyramid 221 = .ok (.iload_n 2, 1) := by decide +kernel
theorem dX12_pyramid_222 : decode cX12_pyramid 222 = .ok (.iadd, 1) := by decide +kernel
theorem dX12_pyramid_223 : decode cX12_pyramid 223 = .ok (.iaload, 1) := by decide +kernel
theorem dX12_pyramid_224 : decode cX12_pyramid 224 = .ok (.iastore, 1) := by decide +kernel
theorem dX12_pyramid_225 : decode cX12_pyramid 225 = .ok (.aload_n 0, 1) := by decide +kernel
theorem dX12_pyramid_226 : decode cX12_pyramid 226 = .ok (.getfield 20, 3) := by decide +kernel
theorem dX12_pyramid_229 : decode cX12_pyramid 229 = .ok (.iload_n 2, 1) := by decide +kernel
theorem dX12_pyramid_230 : decode cX12_pyramid 230 = .ok (.aload_n 0, 1) := by decide +kernel
theorem dX12_pyramid_231 : decode cX12_pyramid 231 = .ok (.getfield 20, 3) := by decide +kernel
theorem dX12_pyramid_234 : decode cX12_pyramid 234 = .ok (.bipush 30, 2) := by decide +kernel
theorem dX12_pyramid_236 : decode cX12_pyramid 236 = .ok (.iload_n 2, 1) := by decide +kernel
theorem dX12_pyramid_237 : decode cX12_pyramid 237 = .ok (.iadd, 1) := by decide +kernel
theorem dX12_pyramid_238 : decode cX12_pyramid 238 = .ok (.iaload, 1) := by decide +kernel
theorem dX12_pyramid_239 : decode cX12_pyramid 239 = .ok (.iastore, 1) := by decide +kernel
theorem dX12_pyramid_240 : decode cX12_pyramid 240 = .ok (.aload_n 0, 1) := by decide +kernel
theorem dX12_pyramid_241 : decode cX12_pyramid 241 = .ok (.getfield 23, 3) := by decide +kernel
theorem dX12_pyramid_244 : decode cX12_pyramid 244 = .ok (.iload_n 2, 1) := by decide +kernel
theorem dX12_pyramid_245 : decode cX12_pyramid 245 = .ok (.aload_n 0, 1) := by decide +kernel
theorem dX12_pyramid_246 : decode cX12_pyramid 246 = .ok (.getfield 23, 3) := by decide +kernel
theorem dX12_pyramid_249 : decode cX12_pyramid 249 = .ok (.bipush 30, 2) := by decide +kernel
theorem dX12_pyramid_251 : decode cX12_pyramid 251 = .ok (.iload_n 2, 1) := by decide +kernel
theorem dX12_pyramid_252 : decode cX12_pyramid 252 = .ok (.iadd, 1) := by decide +kernel
theorem dX12_pyramid_253 : decode cX12_pyramid 253 = .ok (.iaload, 1) := by decide +kernel
theorem dX12_pyramid_254 : decode cX12_pyramid 254 = .ok (.iastore, 1) := by decide +kernel
theorem dX12_pyramid_255 : decode cX12_pyramid 255 = .ok (.aload_n 0, 1) := by decide +kernel
theorem dX12_pyramid_256 : decode cX12_pyramid 256 = .ok (.getfield 26, 3) := by decide +kernel
theorem dX12_pyramid_259 : decode cX12_pyramid 259 = .ok (.iload_n 2, 1) := by decide +kernel
theorem dX12_pyramid_260 : decode cX12_pyramid 260 = .ok (.aload_n 0, 1) := by decide +kernel
theorem dX12_pyramid_261 : decode cX12_pyramid 261 = .ok (.getfield 26, 3) := by decide +kernel
theorem dX12_pyramid_264 : decode cX12_pyramid 264 = .ok (.bipush 30, 2) := by decide +kernel
theorem dX12_pyramid_266 : decode cX12_pyramid 266 = .ok (.iload_n 2, 1) := by decide +kernel
theorem dX12_pyramid_267 : decode cX12_pyramid 267 = .ok (.iadd, 1) := by decide +kernel
theorem dX12_pyramid_268 : decode cX12_pyramid 268 = .ok (.iaload, 1) := by decide +kernel
theorem dX12_pyramid_269 : decode cX12_pyramid 269 = .ok (.iastore, 1) := by decide +kernel
theorem dX12_pyramid_270 : decode cX12_pyramid 270 = .ok (.aload_n 0, 1) := by decide +kernel
theorem dX12_pyramid_271 : decode cX12_pyramid 271 = .ok (.getfield 32, 3) := by decide +kernel
theorem dX12_pyramid_274 : decode cX12_pyramid 274 = .ok (.iconst 0, 1) := by decide +kernel
theorem dX12_pyramid_275 : decode cX12_pyramid 275 = .ok (.iload_n 2, 1) := by decide +kernel
theorem dX12_pyramid_276 : decode cX12_pyramid 276 = .ok (.iadd, 1) := by decide +kernel
theorem dX12_pyramid_277 : decode cX12_pyramid 277 = .ok (.aload_n 0, 1) := by decide +kernel
theorem dX12_pyramid_278 : decode cX12_pyramid 278 = .ok (.getfield 29, 3) := by decide +kernel
theorem dX12_pyramid_281 : decode cX12_pyramid 281 = .ok (.bipush 30, 2) := by decide +kernel
theorem dX12_pyramid_283 : decode cX12_pyramid 283 = .ok (.iload_n 2, 1) := by decide +kernel
theorem dX12_pyramid_284 : decode cX12_pyramid 284 = .ok (.iadd, 1) := by decide +kernel
theorem dX12_pyramid_285 : decode cX12_pyramid 285 = .ok (.iaload, 1) := by decide +kernel
theorem dX12_pyramid_286 : decode cX12_pyramid 286 = .ok (.iastore, 1) := by decide +kernel
theorem dX12_pyramid_287 : decode cX12_pyramid 287 = .ok (.iinc 2 1, 3) := by decide +kernel
theorem dX12_pyramid_290 : decode cX12_pyramid 290 = .ok (.goto (-101), 3) := by decide +kernel
theorem dX12_pyramid_293 : decode cX12_pyramid 293 = .ok (.aload_n 0, 1) := by decide +kernel
theorem dX12_pyramid_294 : decode cX12_pyramid 294 = .ok (.invokevirtual 269, 3) := by decide +kernel
theorem dX12_pyramid_297 : decode cX12_pyramid 297 = .ok (.aload_n 0, 1) := by decide +kernel
theorem dX12_pyramid_298 : decode cX12_pyramid 298 = .ok (.getfield 263, 3) := by decide +kernel
theorem dX12_pyramid_301 : decode cX12_pyramid 301 = .ok (.ireturn, 1) := by decide +kernel
theorem dX12_starts_0 : decode cX12_starts 0 = .ok (.aload_n 0, 1) := by decide +kernel
theorem dX12_starts_1 : decode cX12_starts 1 = .ok (.iconst 0, 1) := by decide +kernel
theorem dX12_starts_2 : decode cX12_starts 2 = .ok (.putfield 110, 3) := by decide +kernel
theorem dX12_starts_5 : decode cX12_starts 5 = .ok (.iconst 0, 1) := by decide +kernel
theorem dX12_starts_6 : decode cX12_starts 6 = .ok (.istore_n 1, 1) := by decide +kernel
theorem dX12_starts_7 : decode cX12_starts 7 = .ok (.iload_n 1, 1) := by decide +kernel
theorem dX12_starts_8 : decode cX12_starts 8 = .ok (.bipush 30, 2) := by decide +kernel
theorem dX12_starts_10 : decode cX12_starts 10 = .ok (.if_icmp .ge 39, 3) := by decide +kernel
theorem dX12_starts_13 : decode cX12_starts 13 = .ok (.aload_n 0, 1) := by decide +kernel
theorem dX12_starts_14 : decode cX12_starts 14 = .ok (.getfield 32, 3) := by decide +kernel
theorem dX12_starts_17 : decode cX12_starts 17 = .ok (.bipush 30, 2) := by decide +kernel
theorem dX12_starts_19 : decode cX12_starts 19 = .ok (.iload_n 1, 1) := by decide +kernel
theorem dX12_starts_20 : decode cX12_starts 20 = .ok (.iadd, 1) := by decide +kernel
theorem dX12_starts_21 : decode cX12_starts 21 = .ok (.iconst 0, 1) := by decide +kernel
theorem dX12_starts_22 : decode cX12_starts 22 = .ok (.iastore, 1) := by decide +kernel
theorem dX12_starts_23 : decode cX12_starts 23 = .ok (.aload_n 0, 1) := by decide +kernel
theorem dX12_starts_24 : decode cX12_starts 24 = .ok (.getfield 32, 3) := by decide +kernel
theorem dX12_starts_27 : decode cX12_starts 27 = .ok (.bipush 60, 2) := by decide +kernel
theorem dX12_starts_29 : decode cX12_starts 29 = .ok (.iload_n 1, 1) := by decide +kernel
theorem dX12_starts_30 : decode cX12_starts 30 = .ok (.iadd, 1) := by decide +kernel
theorem dX12_starts_31 : decode cX12_starts 31 = .ok (.iconst 0, 1) := by decide +kernel
theorem dX12_starts_32 : decode cX12_starts 32 = .ok (.iastore, 1) := by decide +kernel
theorem dX12_starts_33 : decode cX12_starts 33 = .ok (.aload_n 0, 1) := by decide +kernel
theorem dX12_starts_34 : decode cX12_starts 34 = .ok (.getfield 32, 3) := by decide +kernel
theorem dX12_starts_37 : decode cX12_starts 37 = .ok (.bipush 90, 2) := by decide +kernel
theorem dX12_starts_39 : decode cX12_starts 39 = .ok (.iload_n 1, 1) := by decide +kernel
theorem dX12_starts_40 : decode cX12_starts 40 = .ok (.iadd, 1) := by decide +kernel
theorem dX12_starts_41 : decode cX12_starts 41 = .ok (.iconst 0, 1) := by decide +kernel
theorem dX12_starts_42 : decode cX12_starts 42 = .ok (.iastore, 1) := by decide +kernel
theorem dX12_starts_43 : decode cX12_starts 43 = .ok (.iinc 1 1, 3) := by decide +kernel
theorem dX12_starts_46 : decode cX12_starts 46 = .ok (.goto (-39), 3) := by decide +kernel
theorem dX12_starts_49 : decode cX12_starts 49 = .ok (.iconst 0, 1) := by decide +kernel
theorem dX12_starts_50 : decode cX12_starts 50 = .ok (.istore_n 1, 1) := by decide +kernel
theorem dX12_starts_51 : decode cX12_starts 51 = .ok (.iload_n 1, 1) := by decide +kernel
theorem dX12_starts_52 : decode cX12_starts 52 = .ok (.sipush 900, 3) := by decide +kernel
theorem dX12_starts_55 : decode cX12_starts 55 = .ok (.if_icmp .ge 19, 3) := by decide +kernel
theorem dX12_starts_58 : decode cX12_starts 58 = .ok (.aload_n 0, 1) := by decide +kernel
theorem dX12_starts_59 : decode cX12_starts 59 = .ok (.getfield 32, 3) := by decide +kernel
theorem dX12_starts_62 : decode cX12_starts 62 = .ok (.bipush 120, 2) := by decide +kernel
theorem dX12_starts_64 : decode cX12_starts 64 = .ok (.iload_n 1, 1) := by decide +kernel
theorem dX12_starts_65 : decode cX12_starts 65 = .ok (.iadd, 1) := by decide +kernel
theorem dX12_starts_66 : decode cX12_starts 66 = .ok (.iconst (-1), 1) := by decide +kernel
theorem dX12_starts_67 : decode cX12_starts 67 = .ok (.iastore, 1) := by decide +kernel
theorem dX12_starts_68 : decode cX12_starts 68 = .ok (.iinc 1 1, 3) := by decide +kernel
theorem dX12_starts_71 : decode cX12_starts 71 = .ok (.goto (-20), 3) := by decide +kernel
theorem dX12_starts_74 : decode cX12_starts 74 = .ok (.return_, 1) := by decide +kernel
theorem dX12_readMatch_0 : decode cX12_readMatch 0 = .ok (.aload_n 0, 1) := by decide +kernel
theorem dX12_readMatch_1 : decode cX12_readMatch 1 = .ok (.invokevirtual 224, 3) := by decide +kernel
theorem dX12_readMatch_4 : decode cX12_readMatch 4 = .ok (.ifCond .ne 9, 3) := by decide +kernel
theorem dX12_readMatch_7 : decode cX12_readMatch 7 = .ok (.aload_n 0, 1) := by decide +kernel
theorem dX12_readMatch_8 : decode cX12_readMatch 8 = .ok (.iconst 1, 1) := by decide +kernel
theorem dX12_readMatch_9 : decode cX12_readMatch 9 = .ok (.invokevirtual 191, 3) := by decide +kernel
theorem dX12_readMatch_12 : decode cX12_readMatch 12 = .ok (.ireturn, 1) := by decide +kernel
theorem dX12_readMatch_13 : decode cX12_readMatch 13 = .ok (.aload_n 0, 1) := by decide +kernel
theorem dX12_readMatch_14 : decode cX12_readMatch 14 = .ok (.aload_n 0, 1) := by decide +kernel
theorem dX12_readMatch_15 : decode cX12_readMatch 15 = .ok (.getfield 134, 3) := by decide +kernel
theorem dX12_readMatch_18 : decode cX12_readMatch 18 = .ok (.iconst 0, 1) := by decide +kernel
theorem dX12_readMatch_19 : decode cX12_readMatch 19 = .ok (.aload_n 0, 1) := by decide +kernel
theorem dX12_readMatch_20 : decode cX12_readMatch 20 = .ok (.getfield 263, 3) := by decide +kernel
theorem dX12_readMatch_23 : decode cX12_readMatch 23 = .ok (.invokevirtual 228, 3) := by decide +kernel
theorem dX12_readMatch_26 : decode cX12_readMatch 26 = .ok (.istore_n 1, 1) := by decide +kernel
theorem dX12_readMatch_27 : decode cX12_readMatch 27 = .ok (.iload_n 1, 1) := by decide +kernel
theorem dX12_readMatch_28 : decode cX12_readMatch 28 = .ok (.iconst (-1), 1) := by decide +kernel
theorem dX12_readMatch_29 : decode cX12_readMatch 29 = .ok (.if_icmp .ne 9, 3) := by decide +kernel
theorem dX12_readMatch_32 : decode cX12_readMatch 32 = .ok (.aload_n 0, 1) := by decide +kernel
theorem dX12_readMatch_33 : decode cX12_readMatch 33 = .ok (.iconst 2, 1) := by decide +kernel
theorem dX12_readMatch_34 : decode cX12_readMatch 34 = .ok (.invokevirtual 191, 3) := by decide +kernel
theorem dX12_readMatch_37 : decode cX12_readMatch 37 = .ok (.ireturn, 1) := by decide +kernel
theorem dX12_readMatch_38 : decode cX12_readMatch 38 = .ok (.aload_n 0, 1) := by decide +kernel
theorem dX12_readMatch_39 : decode cX12_readMatch 39 = .ok (.invokevirtual 195, 3) := by decide +kernel
theorem dX12_readMatch_42 : decode cX12_readMatch 42 = .ok (.aload_n 0, 1) := by decide +kernel
theorem dX12_readMatch_43 : decode cX12_readMatch 43 = .ok (.iconst 0, 1) := by decide +kernel
theorem dX12_readMatch_44 : decode cX12_readMatch 44 = .ok (.bipush 99, 2) := by decide +kernel
theorem dX12_readMatch_46 : decode cX12_readMatch 46 = .ok (.invokevirtual 201, 3) := by decide +kernel
theorem dX12_readMatch_49 : decode cX12_readMatch 49 = .ok (.ifCond .ne 5, 3) := by decide +kernel
theorem dX12_readMatch_52 : decode cX12_readMatch 52 = .ok (.iconst 0, 1) := by decide +kernel
theorem dX12_readMatch_53 : decode cX12_readMatch 53 = .ok (.ireturn, 1) := by decide +kernel
theorem dX12_readMatch_54 : decode cX12_readMatch 54 = .ok (.aload_n 0, 1) := by decide +kernel
theorem dX12_readMatch_55 : decode cX12_readMatch 55 = .ok (.getfield 198, 3) := by decide +kernel
theorem dX12_readMatch_58 : decode cX12_readMatch 58 = .ok (.istore_n 2, 1) := by decide +kernel
theorem dX12_readMatch_59 : decode cX12_readMatch 59 = .ok (.aload_n 0, 1) := by decide +kernel
theorem dX12_readMatch_60 : decode cX12_readMatch 60 = .ok (.bipush 45, 2) := by decide +kernel
theorem dX12_readMatch_62 : decode cX12_readMatch 62 = .ok (.invokevirtual 245, 3) := by decide +kernel
theorem dX12_readMatch_65 : decode cX12_readMatch 65 = .ok (.ifCond .eq 13, 3) := by decide +kernel
theorem dX12_readMatch_68 : decode cX12_readMatch 68 = .ok (.aload_n 0, 1) := by decide +kernel
theorem dX12_readMatch_69 : decode cX12_readMatch 69 = .ok (.iconst 0, 1) := by decide +kernel
theorem dX12_readMatch_70 : decode cX12_readMatch 70 = .ok (.bipush 99, 2) := by decide +kernel
theorem dX12_readMatch_72 : decode cX12_readMatch 72 = .ok (.invokevirtual 201, 3) := by decide +kernel
theorem dX12_readMatch_75 : decode cX12_readMatch 75 = .ok (.ifCond .ne 5, 3) := by decide +kernel
theorem dX12_readMatch_78 : decode cX12_readMatch 78 = .ok (.iconst 0, 1) := by decide +kernel
theorem dX12_readMatch_79 : decode cX12_readMatch 79 = .ok (.ireturn, 1) := by decide +kernel
theorem dX12_readMatch_80 : decode cX12_readMatch 80 = .ok (.aload_n 0, 1) := by decide +kernel
theorem dX12_readMatch_81 : decode cX12_readMatch 81 = .ok (.getfield 198, 3) := by decide +kernel
theorem dX12_readMatch_84 : decode cX12_readMatch 84 = .ok (.istore_n 3, 1) := by decide +kernel
theorem dX12_readMatch_85 : decode cX12_readMatch 85 = .ok (.aload_n 0, 1) := by decide +kernel
theorem dX12_readMatch_86 : decode cX12_readMatch 86 = .ok (.invokevirtual 224, 3) := by decide +kernel
theorem dX12_readMatch_89 : decode cX12_readMatch 89 = .ok (.ifCond .ne 9, 3) := by decide +kernel
theorem dX12_readMatch_92 : decode cX12_readMatch 92 = .ok (.aload_n 0, 1) := by decide +kernel
theorem dX12_readMatch_93 : decode cX12_readMatch 93 = .ok (.iconst 1, 1) := by decide +kernel
theorem dX12_readMatch_94 : decode cX12_readMatch 94 = .ok (.invokevirtual 191, 3) := by decide +kernel
theorem dX12_readMatch_97 : decode cX12_readMatch 97 = .ok (.ireturn, 1) := by decide +kernel
theorem dX12_readMatch_98 : decode cX12_readMatch 98 = .ok (.aload_n 0, 1) := by decide +kernel
theorem dX12_readMatch_99 : decode cX12_readMatch 99 = .ok (.aload_n 0, 1) := by decide +kernel
theorem dX12_readMatch_100 : decode cX12_readMatch 100 = .ok (.getfield 134, 3) := by decide +kernel
theorem dX12_readMatch_103 : decode cX12_readMatch 103 = .ok (.iconst 0, 1) := by decide +kernel
theorem dX12_readMatch_104 : decode cX12_readMatch 104 = .ok (.aload_n 0, 1) := by decide +kernel
theorem dX12_readMatch_105 : decode cX12_readMatch 105 = .ok (.getfield 263, 3) := by decide +kernel
theorem dX12_readMatch_108 : decode cX12_readMatch 108 = .ok (.invokevirtual 228, 3) := by decide +kernel
theorem dX12_readMatch_111 : decode cX12_readMatch 111 = .ok (.istore 4, 2) := by decide +kernel
theorem dX12_readMatch_113 : decode cX12_readMatch 113 = .ok (.iload 4, 2) := by decide +kernel
theorem dX12_readMatch_115 : decode cX12_readMatch 115 = .ok (.iconst (-1), 1) := by decide +kernel
theorem dX12_readMatch_116 : decode cX12_readMatch 116 = .ok (.if_icmp .ne 9, 3) := by decide +kernel
theorem dX12_readMatch_119 : decode cX12_readMatch 119 = .ok (.aload_n 0, 1) := by decide +kernel
theorem dX12_readMatch_120 : decode cX12_readMatch 120 = .ok (.iconst 2, 1) := by decide +kernel
theorem dX12_readMatch_121 : decode cX12_readMatch 121 = .ok (.invokevirtual 191, 3) := by decide +kernel
theorem dX12_readMatch_124 : decode cX12_readMatch 124 = .ok (.ireturn, 1) := by decide +kernel
theorem dX12_readMatch_125 : decode cX12_readMatch 125 = .ok (.iload_n 1, 1) := by decide +kernel
theorem dX12_readMatch_126 : decode cX12_readMatch 126 = .ok (.iload 4, 2) := by decide +kernel
theorem dX12_readMatch_128 : decode cX12_readMatch 128 = .ok (.if_icmp .eq 36, 3) := by decide +kernel
theorem dX12_readMatch_131 : decode cX12_readMatch 131 = .ok (.aload_n 0, 1) := by decide +kernel
theorem dX12_readMatch_132 : decode cX12_readMatch 132 = .ok (.iload_n 1, 1) := by decide +kernel
theorem dX12_readMatch_133 : decode cX12_readMatch 133 = .ok (.iload 4, 2) := by decide +kernel
theorem dX12_readMatch_135 : decode cX12_readMatch 135 = .ok (.invokevirtual 272, 3) := by decide +kernel
theorem dX12_readMatch_138 : decode cX12_readMatch 138 = .ok (.ifCond .eq 26, 3) := by decide +kernel
theorem dX12_readMatch_141 : decode cX12_readMatch 141 = .ok (.aload_n 0, 1) := by decide +kernel
theorem dX12_readMatch_142 : decode cX12_readMatch 142 = .ok (.getfield 32, 3) := by decide +kernel
theorem dX12_readMatch_145 : decode cX12_readMatch 145 = .ok (.bipush 120, 2) := by decide +kernel
theorem dX12_readMatch_147 : decode cX12_readMatch 147 = .ok (.bipush 30, 2) := by decide +kernel
theorem dX12_readMatch_149 : decode cX12_readMatch 149 = .ok (.iload_n 1, 1) := by decide +kernel
theorem dX12_readMatch_150 : decode cX12_readMatch 150 = .ok (.imul, 1) := by decide +kernel
theorem dX12_readMatch_151 : decode cX12_readMatch 151 = .ok (.iadd, 1) := by decide +kernel
theorem dX12_readMatch_152 : decode cX12_readMatch 152 = .ok (.iload 4, 2) := by decide +kernel
theorem dX12_readMatch_154 : decode cX12_readMatch 154 = .ok (.iadd, 1) := by decide +kernel
theorem dX12_readMatch_155 : decode cX12_readMatch 155 = .ok (.iaload, 1) := by decide +kernel
theorem dX12_readMatch_156 : decode cX12_readMatch 156 = .ok (.iconst (-1), 1) := by decide +kernel
theorem dX12_readMatch_157 : decode cX12_readMatch 157 = .ok (.if_icmp .ne 7, 3) := by decide +kernel
theorem dX12_readMatch_160 : decode cX12_readMatch 160 = .ok (.iconst 1, 1) := by decide +kernel
theorem dX12_readMatch_161 : decode cX12_readMatch 161 = .ok (.goto 4, 3) := by decide +kernel
theorem dX12_readMatch_164 : decode cX12_readMatch 164 = .ok (.iconst 0, 1) := by decide +kernel
theorem dX12_readMatch_165 : decode cX12_readMatch 165 = .ok (.istore 5, 2) := by decide +kernel
theorem dX12_readMatch_167 : decode cX12_readMatch 167 = .ok (.iconst 0, 1) := by decide +kernel
theorem dX12_readMatch_168 : decode cX12_readMatch 168 = .ok (.istore 6, 2) := by decide +kernel
theorem dX12_readMatch_170 : decode cX12_readMatch 170 = .ok (.iload 6, 2) := by decide +kernel
theorem dX12_readMatch_172 : decode cX12_readMatch 172 = .ok (.aload_n 0, 1) := by decide +kernel
theorem dX12_readMatch_173 : decode cX12_readMatch 173 = .ok (.getfield 275, 3) := by decide +kernel
theorem dX12_readMatch_176 : decode cX12_readMatch 176 = .ok (.if_icmp .ge 50, 3) := by decide +kernel
theorem dX12_readMatch_179 : decode cX12_readMatch 179 = .ok (.iload 5, 2) := by decide +kernel
theorem dX12_readMatch_181 : decode cX12_readMatch 181 = .ok (.ifCond .eq 36, 3) := by decide +kernel
theorem dX12_readMatch_184 : decode cX12_readMatch 184 = .ok (.aload_n 0, 1) := by decide +kernel
theorem dX12_readMatch_185 : decode cX12_readMatch 185 = .ok (.getfield 45, 3) := by decide +kernel
theorem dX12_readMatch_188 : decode cX12_readMatch 188 = .ok (.iconst 3, 1) := by decide +kernel
theorem dX12_readMatch_189 : decode cX12_readMatch 189 = .ok (.iload 6, 2) := by decide +kernel
theorem dX12_readMatch_191 : decode cX12_readMatch 191 = .ok (.imul, 1) := by decide +kernel
theorem dX12_readMatch_192 : decode cX12_readMatch 192 = .ok (.iaload, 1) := by decide +kernel
theorem dX12_readMatch_193 : decode cX12_readMatch 193 = .ok (.iload_n 1, 1) := by decide +kernel
theorem dX12_readMatch_194 : decode cX12_readMatch 194 = .ok (.if_icmp .ne 19, 3) := by decide +kernel
theorem dX12_readMatch_197 : decode cX12_readMatch 197 = .ok (.aload_n 0, 1) := by decide +kernel
theorem dX12_readMatch_198 : decode cX12_readMatch 198 = .ok (.getfield 45, 3) := by decide +kernel
theorem dX12_readMatch_201 : decode cX12_readMatch 201 = .ok (.iconst 3, 1) := by decide +kernel
theorem dX12_readMatch_202 : decode cX12_readMatch 202 = .ok (.iload 6, 2) := by decide +kernel
theorem dX12_readMatch_204 : decode cX12_readMatch 204 = .ok (.imul, 1) := by decide +kernel
theorem dX12_readMatch_205 : decode cX12_readMatch 205 = .ok (.iconst 1, 1) := by decide +kernel
theorem dX12_readMatch_206 : decode cX12_readMatch 206 = .ok (.iadd, 1) := by decide +kernel
theorem dX12_readMatch_207 : decode cX12_readMatch 207 = .ok (.iaload, 1) := by decide +kernel
theorem dX12_readMatch_208 : decode cX12_readMatch 208 = .ok (.iload 4, 2) := by decide +kernel
theorem dX12_readMatch_210 : decode cX12_readMatch 210 = .ok (.if_icmp .eq 7, 3) := by decide +kernel
theorem dX12_readMatch_213 : decode cX12_readMatch 213 = .ok (.iconst 1, 1) := by decide +kernel
theorem dX12_readMatch_214 : decode cX12_readMatch 214 = .ok (.goto 4, 3) := by decide +kernel
theorem dX12_readMatch_217 : decode cX12_readMatch 217 = .ok (.iconst 0, 1) := by decide +kernel
theorem dX12_readMatch_218 : decode cX12_readMatch 218 = .ok (.istore 5, 2) := by decide +kernel
theorem dX12_readMatch_220 : decode cX12_readMatch 220 = .ok (.iinc 6 1, 3) := by decide +kernel
theorem dX12_readMatch_223 : decode cX12_readMatch 223 = .ok (.goto (-53), 3) := by decide +kernel
theorem dX12_readMatch_226 : decode cX12_readMatch 226 = .ok (.iload 5, 2) := by decide +kernel
theorem dX12_readMatch_228 : decode cX12_readMatch 228 = .ok (.ifCond .ne 9, 3) := by decide +kernel
theorem dX12_readMatch_231 : decode cX12_readMatch 231 = .ok (.aload_n 0, 1) := by decide +kernel
theorem dX12_readMatch_232 : decode cX12_readMatch 232 = .ok (.iconst 4, 1) := by decide +kernel
theorem dX12_readMatch_233 : decode cX12_readMatch 233 = .ok (.invokevirtual 191, 3) := by decide +kernel
theorem dX12_readMatch_236 : decode cX12_readMatch 236 = .ok (.ireturn, 1) := by decide +kernel
theorem dX12_readMatch_237 : decode cX12_readMatch 237 = .ok (.aload_n 0, 1) := by decide +kernel
theorem dX12_readMatch_238 : decode cX12_readMatch 238 = .ok (.invokevirtual 195, 3) := by decide +kernel
theorem dX12_readMatch_241 : decode cX12_readMatch 241 = .ok (.aload_n 0, 1) := by decide +kernel
theorem dX12_readMatch_242 : decode cX12_readMatch 242 = .ok (.getfield 45, 3) := by decide +kernel
theorem dX12_readMatch_245 : decode cX12_readMatch 245 = .ok (.iconst 3, 1) := by decide +kernel
theorem dX12_readMatch_246 : decode cX12_readMatch 246 = .ok (.aload_n 0, 1) := by decide +kernel
theorem dX12_readMatch_247 : decode cX12_readMatch 247 = .ok (.getfield 275, 3) := by decide +kernel
theorem dX12_readMatch_250 : decode cX12_readMatch 250 = .ok (.imul, 1) := by decide +kernel
theorem dX12_readMatch_251 : decode cX12_readMatch 251 = .ok (.iload_n 1, 1) := by decide +kernel
theorem dX12_readMatch_252 : decode cX12_readMatch 252 = .ok (.iastore, 1) := by decide +kernel
theorem dX12_readMatch_253 : decode cX12_readMatch 253 = .ok (.aload_n 0, 1) := by decide +kernel
theorem dX12_readMatch_254 : decode cX12_readMatch 254 = .ok (.getfield 45, 3) := by decide +kernel
theorem dX12_readMatch_257 : decode cX12_readMatch 257 = .ok (.iconst 3, 1) := by decide +kernel
theorem dX12_readMatch_258 : decode cX12_readMatch 258 = .ok (.aload_n 0, 1) := by decide +kernel
theorem dX12_readMatch_259 : decode cX12_readMatch 259 = .ok (.getfield 275, 3) := by decide +kernel
theorem dX12_readMatch_262 : decode cX12_readMatch 262 = .ok (.imul, 1) := by decide +kernel
theorem dX12_readMatch_263 : decode cX12_readMatch 263 = .ok (.iconst 1, 1) := by decide +kernel
theorem dX12_readMatch_264 : decode cX12_readMatch 264 = .ok (.iadd, 1) := by decide +kernel
theorem dX12_readMatch_265 : decode cX12_readMatch 265 = .ok (.iload 4, 2) := by decide +kernel
theorem dX12_readMatch_267 : decode cX12_readMatch 267 = .ok (.iastore, 1) := by decide +kernel
theorem dX12_readMatch_268 : decode cX12_readMatch 268 = .ok (.aload_n 0, 1) := by decide +kernel
theorem dX12_readMatch_269 : decode cX12_readMatch 269 = .ok (.getfield 45, 3) := by decide +kernel
theorem dX12_readMatch_272 : decode cX12_readMatch 272 = .ok (.iconst 3, 1) := by decide +kernel
theorem dX12_readMatch_273 : decode cX12_readMatch 273 = .ok (.aload_n 0, 1) := by decide +kernel
theorem dX12_readMatch_274 : decode cX12_readMatch 274 = .ok (.getfield 275, 3) := by decide +kernel
theorem dX12_readMatch_277 : decode cX12_readMatch 277 = .ok (.imul, 1) := by decide +kernel
theorem dX12_readMatch_278 : decode cX12_readMatch 278 = .ok (.iconst 2, 1) := by decide +kernel
theorem dX12_readMatch_279 : decode cX12_readMatch 279 = .ok (.iadd, 1) := by decide +kernel
theorem dX12_readMatch_280 : decode cX12_readMatch 280 = .ok (.bipush 100, 2) := by decide +kernel
theorem dX12_readMatch_282 : decode cX12_readMatch 282 = .ok (.iload_n 2, 1) := by decide +kernel
theorem dX12_readMatch_283 : decode cX12_readMatch 283 = .ok (.imul, 1) := by decide +kernel
theorem dX12_readMatch_284 : decode cX12_readMatch 284 = .ok (.iload_n 3, 1) := by decide +kernel
theorem dX12_readMatch_285 : decode cX12_readMatch 285 = .ok (.iadd, 1) := by decide +kernel
theorem dX12_readMatch_286 : decode cX12_readMatch 286 = .ok (.iastore, 1) := by decide +kernel
theorem dX12_readMatch_287 : decode cX12_readMatch 287 = .ok (.aload_n 0, 1) := by decide +kernel
theorem dX12_readMatch_288 : decode cX12_readMatch 288 = .ok (.bipush 59, 2) := by decide +kernel
theorem dX12_readMatch_290 : decode cX12_readMatch 290 = .ok (.invokevirtual 245, 3) := by decide +kernel
theorem dX12_readMatch_293 : decode cX12_readMatch 293 = .ok (.ifCond .ne 5, 3) := by decide +kernel
theorem dX12_readMatch_296 : decode cX12_readMatch 296 = .ok (.iconst 0, 1) := by decide +kernel
theorem dX12_readMatch_297 : decode cX12_readMatch 297 = .ok (.ireturn, 1) := by decide +kernel
theorem dX12_readMatch_298 : decode cX12_readMatch 298 = .ok (.aload_n 0, 1) := by decide +kernel
theorem dX12_readMatch_299 : decode cX12_readMatch 299 = .ok (.dup, 1) := by decide +kernel
theorem dX12_readMatch_300 : decode cX12_readMatch 300 = .ok (.getfield 275, 3) := by decide +kernel
theorem dX12_readMatch_303 : decode cX12_readMatch 303 = .ok (.iconst 1, 1) := by decide +kernel
theorem dX12_readMatch_304 : decode cX12_readMatch 304 = .ok (.iadd, 1) := by decide +kernel
theorem dX12_readMatch_305 : decode cX12_readMatch 305 = .ok (.putfield 275, 3) := by decide +kernel
theorem dX12_readMatch_308 : decode cX12_readMatch 308 = .ok (.iconst 1, 1) := by decide +kernel
theorem dX12_readMatch_309 : decode cX12_readMatch 309 = .ok (.ireturn, 1) := by decide +kernel
theorem dX12_day_0 : decode cX12_day 0 = .ok (.aload_n 0, 1) := by decide +kernel
theorem dX12_day_1 : decode cX12_day 1 = .ok (.iconst 0, 1) := by decide +kernel
theorem dX12_day_2 : decode cX12_day 2 = .ok (.putfield 275, 3) := by decide +kernel
theorem dX12_day_5 : decode cX12_day 5 = .ok (.aload_n 0, 1) := by decide +kernel
theorem dX12_day_6 : decode cX12_day 6 = .ok (.invokevirtual 251, 3) := by decide +kernel
theorem dX12_day_9 : decode cX12_day 9 = .ok (.aload_n 0, 1) := by decide +kernel
theorem dX12_day_10 : decode cX12_day 10 = .ok (.getfield 144, 3) := by decide +kernel
theorem dX12_day_13 : decode cX12_day 13 = .ok (.ifCond .eq 7, 3) := by decide +kernel
theorem dX12_day_16 : decode cX12_day 16 = .ok (.iconst 1, 1) := by decide +kernel
theorem dX12_day_17 : decode cX12_day 17 = .ok (.goto 4, 3) := by decide +kernel
theorem dX12_day_20 : decode cX12_day 20 = .ok (.iconst 0, 1) := by decide +kernel
theorem dX12_day_21 : decode cX12_day 21 = .ok (.istore_n 1, 1) := by decide +kernel
theorem dX12_day_22 : decode cX12_day 22 = .ok (.iload_n 1, 1) := by decide +kernel
theorem dX12_day_23 : decode cX12_day 23 = .ok (.ifCond .eq 26, 3) := by decide +kernel
theorem dX12_day_26 : decode cX12_day 26 = .ok (.aload_n 0, 1) := by decide +kernel
theorem dX12_day_27 : decode cX12_day 27 = .ok (.invokevirtual 278, 3) := by decide +kernel
theorem dX12_day_30 : decode cX12_day 30 = .ok (.ifCond .eq 14, 3) := by decide +kernel
theorem dX12_day_33 : decode cX12_day 33 = .ok (.aload_n 0, 1) := by decide +kernel
theorem dX12_day_34 : decode cX12_day 34 = .ok (.getfield 144, 3) := by decide +kernel
theorem dX12_day_37 : decode cX12_day 37 = .ok (.ifCond .eq 7, 3) := by decide +kernel
theorem dX12_day_40 : decode cX12_day 40 = .ok (.iconst 1, 1) := by decide +kernel
theorem dX12_day_41 : decode cX12_day 41 = .ok (.goto 4, 3) := by decide +kernel
theorem dX12_day_44 : decode cX12_day 44 = .ok (.iconst 0, 1) := by decide +kernel
theorem dX12_day_45 : decode cX12_day 45 = .ok (.istore_n 1, 1) := by decide +kernel
theorem dX12_day_46 : decode cX12_day 46 = .ok (.goto (-24), 3) := by decide +kernel
theorem dX12_day_49 : decode cX12_day 49 = .ok (.aload_n 0, 1) := by decide +kernel
theorem dX12_day_50 : decode cX12_day 50 = .ok (.invokevirtual 257, 3) := by decide +kernel
theorem dX12_day_53 : decode cX12_day 53 = .ok (.ifCond .ne 5, 3) := by decide +kernel
theorem dX12_day_56 : decode cX12_day 56 = .ok (.iconst (-1), 1) := by decide +kernel
theorem dX12_day_57 : decode cX12_day 57 = .ok (.ireturn, 1) := by decide +kernel
theorem dX12_day_58 : decode cX12_day 58 = .ok (.aload_n 0, 1) := by decide +kernel
theorem dX12_day_59 : decode cX12_day 59 = .ok (.getfield 275, 3) := by decide +kernel
theorem dX12_day_62 : decode cX12_day 62 = .ok (.ifCond .le 7, 3) := by decide +kernel
theorem dX12_day_65 : decode cX12_day 65 = .ok (.aload_n 0, 1) := by decide +kernel
theorem dX12_day_66 : decode cX12_day 66 = .ok (.invokevirtual 281, 3) := by decide +kernel
theorem dX12_day_69 : decode cX12_day 69 = .ok (.iconst 0, 1) := by decide +kernel
theorem dX12_day_70 : decode cX12_day 70 = .ok (.istore_n 2, 1) := by decide +kernel
theorem dX12_day_71 : decode cX12_day 71 = .ok (.iload_n 2, 1) := by decide +kernel
theorem dX12_day_72 : decode cX12_day 72 = .ok (.aload_n 0, 1) := by decide +kernel
theorem dX12_day_73 : decode cX12_day 73 = .ok (.getfield 275, 3) := by decide +kernel
theorem dX12_day_76 : decode cX12_day 76 = .ok (.if_icmp .ge 49, 3) := by decide +kernel
theorem dX12_day_79 : decode cX12_day 79 = .ok (.aload_n 0, 1) := by decide +kernel
