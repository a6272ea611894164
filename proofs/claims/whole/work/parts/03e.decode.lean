theorem dX12_swap_44 : decode cX12_swap 44 = .ok (.iconst 1, 1) := by decide +kernel
theorem dX12_swap_45 : decode cX12_swap 45 = .ok (.iadd, 1) := by decide +kernel
theorem dX12_swap_46 : decode cX12_swap 46 = .ok (.istore 7, 2) := by decide +kernel
theorem dX12_swap_48 : decode cX12_swap 48 = .ok (.iload 7, 2) := by decide +kernel
theorem dX12_swap_50 : decode cX12_swap 50 = .ok (.aload_n 0, 1) := by decide +kernel
theorem dX12_swap_51 : decode cX12_swap 51 = .ok (.getfield 263, 3) := by decide +kernel
theorem dX12_swap_54 : decode cX12_swap 54 = .ok (.if_icmp .ge 143, 3) := by decide +kernel
theorem dX12_swap_57 : decode cX12_swap 57 = .ok (.aload_n 0, 1) := by decide +kernel
theorem dX12_swap_58 : decode cX12_swap 58 = .ok (.getfield 23, 3) := by decide +kernel
theorem dX12_swap_61 : decode cX12_swap 61 = .ok (.iload 6, 2) := by decide +kernel
theorem dX12_swap_63 : decode cX12_swap 63 = .ok (.iaload, 1) := by decide +kernel
theorem dX12_swap_64 : decode cX12_swap 64 = .ok (.iload_n 1, 1) := by decide +kernel
theorem dX12_swap_65 : decode cX12_swap 65 = .ok (.if_icmp .ne 126, 3) := by decide +kernel
theorem dX12_swap_68 : decode cX12_swap 68 = .ok (.aload_n 0, 1) := by decide +kernel
theorem dX12_swap_69 : decode cX12_swap 69 = .ok (.getfield 23, 3) := by decide +kernel
theorem dX12_swap_72 : decode cX12_swap 72 = .ok (.iload 7, 2) := by decide +kernel
theorem dX12_swap_74 : decode cX12_swap 74 = .ok (.iaload, 1) := by decide +kernel
theorem dX12_swap_75 : decode cX12_swap 75 = .ok (.iload_n 1, 1) := by decide +kernel
theorem dX12_swap_76 : decode cX12_swap 76 = .ok (.if_icmp .ne 115, 3) := by decide +kernel
theorem dX12_swap_79 : decode cX12_swap 79 = .ok (.aload_n 0, 1) := by decide +kernel
theorem dX12_swap_80 : decode cX12_swap 80 = .ok (.getfield 26, 3) := by decide +kernel
theorem dX12_swap_83 : decode cX12_swap 83 = .ok (.iload 6, 2) := by decide +kernel
theorem dX12_swap_85 : decode cX12_swap 85 = .ok (.iaload, 1) := by decide +kernel
theorem dX12_swap_86 : decode cX12_swap 86 = .ok (.aload_n 0, 1) := by decide +kernel
theorem dX12_swap_87 : decode cX12_swap 87 = .ok (.getfield 26, 3) := by decide +kernel
theorem dX12_swap_90 : decode cX12_swap 90 = .ok (.iload 7, 2) := by decide +kernel
theorem dX12_swap_92 : decode cX12_swap 92 = .ok (.iaload, 1) := by decide +kernel
theorem dX12_swap_93 : decode cX12_swap 93 = .ok (.if_icmp .ne 6, 3) := by decide +kernel
theorem dX12_swap_96 : decode cX12_swap 96 = .ok (.goto 95, 3) := by decide +kernel
theorem dX12_swap_99 : decode cX12_swap 99 = .ok (.aload_n 0, 1) := by decide +kernel
theorem dX12_swap_100 : decode cX12_swap 100 = .ok (.iload 6, 2) := by decide +kernel
theorem dX12_swap_102 : decode cX12_swap 102 = .ok (.iload_n 1, 1) := by decide +kernel
theorem dX12_swap_103 : decode cX12_swap 103 = .ok (.aload_n 0, 1) := by decide +kernel
theorem dX12_swap_104 : decode cX12_swap 104 = .ok (.getfield 26, 3) := by decide +kernel
theorem dX12_swap_107 : decode cX12_swap 107 = .ok (.iload 6, 2) := by decide +kernel
theorem dX12_swap_109 : decode cX12_swap 109 = .ok (.iaload, 1) := by decide +kernel
theorem dX12_swap_110 : decode cX12_swap 110 = .ok (.invokevirtual 323, 3) := by decide +kernel
theorem dX12_swap_113 : decode cX12_swap 113 = .ok (.aload_n 0, 1) := by decide +kernel
theorem dX12_swap_114 : decode cX12_swap 114 = .ok (.iload 7, 2) := by decide +kernel
theorem dX12_swap_116 : decode cX12_swap 116 = .ok (.iload_n 1, 1) := by decide +kernel
theorem dX12_swap_117 : decode cX12_swap 117 = .ok (.aload_n 0, 1) := by decide +kernel
theorem dX12_swap_118 : decode cX12_swap 118 = .ok (.getfield 26, 3) := by decide +kernel
theorem dX12_swap_121 : decode cX12_swap 121 = .ok (.iload 7, 2) := by decide +kernel
theorem dX12_swap_123 : decode cX12_swap 123 = .ok (.iaload, 1) := by decide +kernel
theorem dX12_swap_124 : decode cX12_swap 124 = .ok (.invokevirtual 323, 3) := by decide +kernel
theorem dX12_swap_127 : decode cX12_swap 127 = .ok (.iadd, 1) := by decide +kernel
theorem dX12_swap_128 : decode cX12_swap 128 = .ok (.aload_n 0, 1) := by decide +kernel
theorem dX12_swap_129 : decode cX12_swap 129 = .ok (.iload 6, 2) := by decide +kernel
theorem dX12_swap_131 : decode cX12_swap 131 = .ok (.iload_n 1, 1) := by decide +kernel
theorem dX12_swap_132 : decode cX12_swap 132 = .ok (.aload_n 0, 1) := by decide +kernel
theorem dX12_swap_133 : decode cX12_swap 133 = .ok (.getfield 26, 3) := by decide +kernel
theorem dX12_swap_136 : decode cX12_swap 136 = .ok (.iload 7, 2) := by decide +kernel
theorem dX12_swap_138 : decode cX12_swap 138 = .ok (.iaload, 1) := by decide +kernel
theorem dX12_swap_139 : decode cX12_swap 139 = .ok (.invokevirtual 323, 3) := by decide +kernel
theorem dX12_swap_142 : decode cX12_swap 142 = .ok (.isub, 1) := by decide +kernel
theorem dX12_swap_143 : decode cX12_swap 143 = .ok (.aload_n 0, 1) := by decide +kernel
theorem dX12_swap_144 : decode cX12_swap 144 = .ok (.iload 7, 2) := by decide +kernel
theorem dX12_swap_146 : decode cX12_swap 146 = .ok (.iload_n 1, 1) := by decide +kernel
theorem dX12_swap_147 : decode cX12_swap 147 = .ok (.aload_n 0, 1) := by decide +kernel
theorem dX12_swap_148 : decode cX12_swap 148 = .ok (.getfield 26, 3) := by decide +kernel
theorem dX12_swap_151 : decode cX12_swap 151 = .ok (.iload 6, 2) := by decide +kernel
theorem dX12_swap_153 : decode cX12_swap 153 = .ok (.iaload, 1) := by decide +kernel
theorem dX12_swap_154 : decode cX12_swap 154 = .ok (.invokevirtual 323, 3) := by decide +kernel
theorem dX12_swap_157 : decode cX12_swap 157 = .ok (.isub, 1) := by decide +kernel
theorem dX12_swap_158 : decode cX12_swap 158 = .ok (.iconst 2, 1) := by decide +kernel
theorem dX12_swap_159 : decode cX12_swap 159 = .ok (.aload_n 0, 1) := by decide +kernel
theorem dX12_swap_160 : decode cX12_swap 160 = .ok (.iload 6, 2) := by decide +kernel
theorem dX12_swap_162 : decode cX12_swap 162 = .ok (.iload 7, 2) := by decide +kernel
theorem dX12_swap_164 : decode cX12_swap 164 = .ok (.invokevirtual 320, 3) := by decide +kernel
theorem dX12_swap_167 : decode cX12_swap 167 = .ok (.imul, 1) := by decide +kernel
theorem dX12_swap_168 : decode cX12_swap 168 = .ok (.iadd, 1) := by decide +kernel
theorem dX12_swap_169 : decode cX12_swap 169 = .ok (.istore 8, 2) := by decide +kernel
theorem dX12_swap_171 : decode cX12_swap 171 = .ok (.iload 8, 2) := by decide +kernel
theorem dX12_swap_173 : decode cX12_swap 173 = .ok (.iload_n 3, 1) := by decide +kernel
theorem dX12_swap_174 : decode cX12_swap 174 = .ok (.if_icmp .gt 6, 3) := by decide +kernel
theorem dX12_swap_177 : decode cX12_swap 177 = .ok (.goto 14, 3) := by decide +kernel
theorem dX12_swap_180 : decode cX12_swap 180 = .ok (.iload 8, 2) := by decide +kernel
theorem dX12_swap_182 : decode cX12_swap 182 = .ok (.istore_n 3, 1) := by decide +kernel
theorem dX12_swap_183 : decode cX12_swap 183 = .ok (.iload 6, 2) := by decide +kernel
theorem dX12_swap_185 : decode cX12_swap 185 = .ok (.istore 4, 2) := by decide +kernel
theorem dX12_swap_187 : decode cX12_swap 187 = .ok (.iload 7, 2) := by decide +kernel
theorem dX12_swap_189 : decode cX12_swap 189 = .ok (.istore 5, 2) := by decide +kernel
theorem dX12_swap_191 : decode cX12_swap 191 = .ok (.iinc 7 1, 3) := by decide +kernel
theorem dX12_swap_194 : decode cX12_swap 194 = .ok (.goto (-146), 3) := by decide +kernel
theorem dX12_swap_197 : decode cX12_swap 197 = .ok (.iinc 6 1, 3) := by decide +kernel
theorem dX12_swap_200 : decode cX12_swap 200 = .ok (.goto (-167), 3) := by decide +kernel
theorem dX12_swap_203 : decode cX12_swap 203 = .ok (.iload_n 3, 1) := by decide +kernel
theorem dX12_swap_204 : decode cX12_swap 204 = .ok (.ifCond .ne 7, 3) := by decide +kernel
theorem dX12_swap_207 : decode cX12_swap 207 = .ok (.iconst (-1), 1) := by decide +kernel
theorem dX12_swap_208 : decode cX12_swap 208 = .ok (.goto 23, 3) := by decide +kernel
theorem dX12_swap_211 : decode cX12_swap 211 = .ok (.iload_n 2, 1) := by decide +kernel
theorem dX12_swap_212 : decode cX12_swap 212 = .ok (.ifCond .ne 8, 3) := by decide +kernel
theorem dX12_swap_215 : decode cX12_swap 215 = .ok (.iload 4, 2) := by decide +kernel
theorem dX12_swap_217 : decode cX12_swap 217 = .ok (.goto 14, 3) := by decide +kernel
theorem dX12_swap_220 : decode cX12_swap 220 = .ok (.iload_n 2, 1) := by decide +kernel
theorem dX12_swap_221 : decode cX12_swap 221 = .ok (.iconst 1, 1) := by decide +kernel
theorem dX12_swap_222 : decode cX12_swap 222 = .ok (.if_icmp .ne 8, 3) := by decide +kernel
theorem dX12_swap_225 : decode cX12_swap 225 = .ok (.iload 5, 2) := by decide +kernel
theorem dX12_swap_227 : decode cX12_swap 227 = .ok (.goto 4, 3) := by decide +kernel
theorem dX12_swap_230 : decode cX12_swap 230 = .ok (.iload_n 3, 1) := by decide +kernel
theorem dX12_swap_231 : decode cX12_swap 231 = .ok (.ireturn, 1) := by decide +kernel
theorem dX12_milesAll_0 : decode cX12_milesAll 0 = .ok (.iconst 0, 1) := by decide +kernel
theorem dX12_milesAll_1 : decode cX12_milesAll 1 = .ok (.istore_n 2, 1) := by decide +kernel
theorem dX12_milesAll_2 : decode cX12_milesAll 2 = .ok (.iconst 0, 1) := by decide +kernel
theorem dX12_milesAll_3 : decode cX12_milesAll 3 = .ok (.istore_n 3, 1) := by decide +kernel
theorem dX12_milesAll_4 : decode cX12_milesAll 4 = .ok (.iload_n 3, 1) := by decide +kernel
theorem dX12_milesAll_5 : decode cX12_milesAll 5 = .ok (.aload_n 0, 1) := by decide +kernel
theorem dX12_milesAll_6 : decode cX12_milesAll 6 = .ok (.getfield 7, 3) := by decide +kernel
theorem dX12_milesAll_9 : decode cX12_milesAll 9 = .ok (.iconst 4, 1) := by decide +kernel
theorem dX12_milesAll_10 : decode cX12_milesAll 10 = .ok (.aload_n 0, 1) := by decide +kernel
theorem dX12_milesAll_11 : decode cX12_milesAll 11 = .ok (.getfield 23, 3) := by decide +kernel
theorem dX12_milesAll_14 : decode cX12_milesAll 14 = .ok (.iload_n 1, 1) := by decide +kernel
theorem dX12_milesAll_15 : decode cX12_milesAll 15 = .ok (.iaload, 1) := by decide +kernel
theorem dX12_milesAll_16 : decode cX12_milesAll 16 = .ok (.imul, 1) := by decide +kernel
theorem dX12_milesAll_17 : decode cX12_milesAll 17 = .ok (.iconst 0, 1) := by decide +kernel
theorem dX12_milesAll_18 : decode cX12_milesAll 18 = .ok (.iadd, 1) := by decide +kernel
theorem dX12_milesAll_19 : decode cX12_milesAll 19 = .ok (.iaload, 1) := by decide +kernel
theorem dX12_milesAll_20 : decode cX12_milesAll 20 = .ok (.if_icmp .ge 24, 3) := by decide +kernel
theorem dX12_milesAll_23 : decode cX12_milesAll 23 = .ok (.iload_n 2, 1) := by decide +kernel
theorem dX12_milesAll_24 : decode cX12_milesAll 24 = .ok (.aload_n 0, 1) := by decide +kernel
theorem dX12_milesAll_25 : decode cX12_milesAll 25 = .ok (.iload_n 1, 1) := by decide +kernel
theorem dX12_milesAll_26 : decode cX12_milesAll 26 = .ok (.aload_n 0, 1) := by decide +kernel
theorem dX12_milesAll_27 : decode cX12_milesAll 27 = .ok (.getfield 23, 3) := by decide +kernel
theorem dX12_milesAll_30 : decode cX12_milesAll 30 = .ok (.iload_n 1, 1) := by decide +kernel
theorem dX12_milesAll_31 : decode cX12_milesAll 31 = .ok (.iaload, 1) := by decide +kernel
theorem dX12_milesAll_32 : decode cX12_milesAll 32 = .ok (.iload_n 3, 1) := by decide +kernel
theorem dX12_milesAll_33 : decode cX12_milesAll 33 = .ok (.invokevirtual 323, 3) := by decide +kernel
theorem dX12_milesAll_36 : decode cX12_milesAll 36 = .ok (.iadd, 1) := by decide +kernel
theorem dX12_milesAll_37 : decode cX12_milesAll 37 = .ok (.istore_n 2, 1) := by decide +kernel
theorem dX12_milesAll_38 : decode cX12_milesAll 38 = .ok (.iinc 3 1, 3) := by decide +kernel
theorem dX12_milesAll_41 : decode cX12_milesAll 41 = .ok (.goto (-37), 3) := by decide +kernel
theorem dX12_milesAll_44 : decode cX12_milesAll 44 = .ok (.iload_n 2, 1) := by decide +kernel
theorem dX12_milesAll_45 : decode cX12_milesAll 45 = .ok (.ireturn, 1) := by decide +kernel
theorem dX12_middle_0 : decode cX12_middle 0 = .ok (.aload_n 0, 1) := by decide +kernel
theorem dX12_middle_1 : decode cX12_middle 1 = .ok (.iload_n 1, 1) := by decide +kernel
theorem dX12_middle_2 : decode cX12_middle 2 = .ok (.invokevirtual 381, 3) := by decide +kernel
theorem dX12_middle_5 : decode cX12_middle 5 = .ok (.ifCond .ne 5, 3) := by decide +kernel
theorem dX12_middle_8 : decode cX12_middle 8 = .ok (.iconst (-1), 1) := by decide +kernel
theorem dX12_middle_9 : decode cX12_middle 9 = .ok (.ireturn, 1) := by decide +kernel
theorem dX12_middle_10 : decode cX12_middle 10 = .ok (.iconst (-1), 1) := by decide +kernel
theorem dX12_middle_11 : decode cX12_middle 11 = .ok (.istore_n 2, 1) := by decide +kernel
theorem dX12_middle_12 : decode cX12_middle 12 = .ok (.iconst 0, 1) := by decide +kernel
theorem dX12_middle_13 : decode cX12_middle 13 = .ok (.istore_n 3, 1) := by decide +kernel
theorem dX12_middle_14 : decode cX12_middle 14 = .ok (.iload_n 3, 1) := by decide +kernel
theorem dX12_middle_15 : decode cX12_middle 15 = .ok (.aload_n 0, 1) := by decide +kernel
theorem dX12_middle_16 : decode cX12_middle 16 = .ok (.getfield 263, 3) := by decide +kernel
theorem dX12_middle_19 : decode cX12_middle 19 = .ok (.if_icmp .ge 39, 3) := by decide +kernel
theorem dX12_middle_22 : decode cX12_middle 22 = .ok (.aload_n 0, 1) := by decide +kernel
theorem dX12_middle_23 : decode cX12_middle 23 = .ok (.getfield 23, 3) := by decide +kernel
theorem dX12_middle_26 : decode cX12_middle 26 = .ok (.iload_n 3, 1) := by decide +kernel
theorem dX12_middle_27 : decode cX12_middle 27 = .ok (.iaload, 1) := by decide +kernel
theorem dX12_middle_28 : decode cX12_middle 28 = .ok (.iload_n 1, 1) := by decide +kernel
theorem dX12_middle_29 : decode cX12_middle 29 = .ok (.if_icmp .ne 23, 3) := by decide +kernel
theorem dX12_middle_32 : decode cX12_middle 32 = .ok (.iload_n 2, 1) := by decide +kernel
theorem dX12_middle_33 : decode cX12_middle 33 = .ok (.iconst (-1), 1) := by decide +kernel
theorem dX12_middle_34 : decode cX12_middle 34 = .ok (.if_icmp .eq 16, 3) := by decide +kernel
theorem dX12_middle_37 : decode cX12_middle 37 = .ok (.aload_n 0, 1) := by decide +kernel
theorem dX12_middle_38 : decode cX12_middle 38 = .ok (.iload_n 3, 1) := by decide +kernel
theorem dX12_middle_39 : decode cX12_middle 39 = .ok (.invokevirtual 394, 3) := by decide +kernel
theorem dX12_middle_42 : decode cX12_middle 42 = .ok (.aload_n 0, 1) := by decide +kernel
theorem dX12_middle_43 : decode cX12_middle 43 = .ok (.iload_n 2, 1) := by decide +kernel
theorem dX12_middle_44 : decode cX12_middle 44 = .ok (.invokevirtual 394, 3) := by decide +kernel
theorem dX12_middle_47 : decode cX12_middle 47 = .ok (.if_icmp .ge 5, 3) := by decide +kernel
theorem dX12_middle_50 : decode cX12_middle 50 = .ok (.iload_n 3, 1) := by decide +kernel
theorem dX12_middle_51 : decode cX12_middle 51 = .ok (.istore_n 2, 1) := by decide +kernel
theorem dX12_middle_52 : decode cX12_middle 52 = .ok (.iinc 3 1, 3) := by decide +kernel
theorem dX12_middle_55 : decode cX12_middle 55 = .ok (.goto (-41), 3) := by decide +kernel
theorem dX12_middle_58 : decode cX12_middle 58 = .ok (.iload_n 2, 1) := by decide +kernel
theorem dX12_middle_59 : decode cX12_middle 59 = .ok (.ireturn, 1) := by decide +kernel
theorem dX12_rest_0 : decode cX12_rest 0 = .ok (.aload_n 0, 1) := by decide +kernel
theorem dX12_rest_1 : decode cX12_rest 1 = .ok (.iload_n 1, 1) := by decide +kernel
theorem dX12_rest_2 : decode cX12_rest 2 = .ok (.iload_n 2, 1) := by decide +kernel
theorem dX12_rest_3 : decode cX12_rest 3 = .ok (.invokevirtual 384, 3) := by decide +kernel
theorem dX12_rest_6 : decode cX12_rest 6 = .ok (.ifCond .ne 7, 3) := by decide +kernel
theorem dX12_rest_9 : decode cX12_rest 9 = .ok (.ldc2_w 397, 3) := by decide +kernel
theorem dX12_rest_12 : decode cX12_rest 12 = .ok (.lreturn, 1) := by decide +kernel
theorem dX12_rest_13 : decode cX12_rest 13 = .ok (.iconst 0, 1) := by decide +kernel
theorem dX12_rest_14 : decode cX12_rest 14 = .ok (.istore_n 3, 1) := by decide +kernel
theorem dX12_rest_15 : decode cX12_rest 15 = .ok (.iconst 0, 1) := by decide +kernel
theorem dX12_rest_16 : decode cX12_rest 16 = .ok (.istore 4, 2) := by decide +kernel
theorem dX12_rest_18 : decode cX12_rest 18 = .ok (.iload 4, 2) := by decide +kernel
theorem dX12_rest_20 : decode cX12_rest 20 = .ok (.aload_n 0, 1) := by decide +kernel
theorem dX12_rest_21 : decode cX12_rest 21 = .ok (.getfield 263, 3) := by decide +kernel
theorem dX12_rest_24 : decode cX12_rest 24 = .ok (.if_icmp .ge 45, 3) := by decide +kernel
theorem dX12_rest_27 : decode cX12_rest 27 = .ok (.iload_n 3, 1) := by decide +kernel
theorem dX12_rest_28 : decode cX12_rest 28 = .ok (.aload_n 0, 1) := by decide +kernel
theorem dX12_rest_29 : decode cX12_rest 29 = .ok (.getfield 23, 3) := by decide +kernel
theorem dX12_rest_32 : decode cX12_rest 32 = .ok (.iload 4, 2) := by decide +kernel
theorem dX12_rest_34 : decode cX12_rest 34 = .ok (.iaload, 1) := by decide +kernel
theorem dX12_rest_35 : decode cX12_rest 35 = .ok (.iload_n 1, 1) := by decide +kernel
theorem dX12_rest_36 : decode cX12_rest 36 = .ok (.if_icmp .ne 24, 3) := by decide +kernel
theorem dX12_rest_39 : decode cX12_rest 39 = .ok (.aload_n 0, 1) := by decide +kernel
theorem dX12_rest_40 : decode cX12_rest 40 = .ok (.getfield 26, 3) := by decide +kernel
theorem dX12_rest_43 : decode cX12_rest 43 = .ok (.iload 4, 2) := by decide +kernel
theorem dX12_rest_45 : decode cX12_rest 45 = .ok (.iaload, 1) := by decide +kernel
theorem dX12_rest_46 : decode cX12_rest 46 = .ok (.iload_n 2, 1) := by decide +kernel
theorem dX12_rest_47 : decode cX12_rest 47 = .ok (.if_icmp .ne 13, 3) := by decide +kernel
theorem dX12_rest_50 : decode cX12_rest 50 = .ok (.aload_n 0, 1) := by decide +kernel
theorem dX12_rest_51 : decode cX12_rest 51 = .ok (.iload 4, 2) := by decide +kernel
theorem dX12_rest_53 : decode cX12_rest 53 = .ok (.iconst 0, 1) := by decide +kernel
theorem dX12_rest_54 : decode cX12_rest 54 = .ok (.invokevirtual 301, 3) := by decide +kernel
theorem dX12_rest_57 : decode cX12_rest 57 = .ok (.goto 4, 3) := by decide +kernel
theorem dX12_rest_60 : decode cX12_rest 60 = .ok (.iconst 0, 1) := by decide +kernel
theorem dX12_rest_61 : decode cX12_rest 61 = .ok (.iadd, 1) := by decide +kernel
theorem dX12_rest_62 : decode cX12_rest 62 = .ok (.istore_n 3, 1) := by decide +kernel
theorem dX12_rest_63 : decode cX12_rest 63 = .ok (.iinc 4 1, 3) := by decide +kernel
theorem dX12_rest_66 : decode cX12_rest 66 = .ok (.goto (-48), 3) := by decide +kernel
theorem dX12_rest_69 : decode cX12_rest 69 = .ok (.iload_n 3, 1) := by decide +kernel
theorem dX12_rest_70 : decode cX12_rest 70 = .ok (.ifCond .ne 7, 3) := by decide +kernel
theorem dX12_rest_73 : decode cX12_rest 73 = .ok (.ldc2_w 397, 3) := by decide +kernel
theorem dX12_rest_76 : decode cX12_rest 76 = .ok (.lreturn, 1) := by decide +kernel
theorem dX12_rest_77 : decode cX12_rest 77 = .ok (.iconst 2, 1) := by decide +kernel
theorem dX12_rest_78 : decode cX12_rest 78 = .ok (.aload_n 0, 1) := by decide +kernel
theorem dX12_rest_79 : decode cX12_rest 79 = .ok (.iload_n 1, 1) := by decide +kernel
theorem dX12_rest_80 : decode cX12_rest 80 = .ok (.iload_n 2, 1) := by decide +kernel
theorem dX12_rest_81 : decode cX12_rest 81 = .ok (.invokevirtual 387, 3) := by decide +kernel
theorem dX12_rest_84 : decode cX12_rest 84 = .ok (.imul, 1) := by decide +kernel
theorem dX12_rest_85 : decode cX12_rest 85 = .ok (.i2d, 1) := by decide +kernel
theorem dX12_rest_86 : decode cX12_rest 86 = .ok (.iload_n 3, 1) := by decide +kernel
theorem dX12_rest_87 : decode cX12_rest 87 = .ok (.iconst 2, 1) := by decide +kernel
theorem dX12_rest_88 : decode cX12_rest 88 = .ok (.idiv, 1) := by decide +kernel
theorem dX12_rest_89 : decode cX12_rest 89 = .ok (.i2d, 1) := by decide +kernel
theorem dX12_rest_90 : decode cX12_rest 90 = .ok (.ddiv, 1) := by decide +kernel
theorem dX12_rest_91 : decode cX12_rest 91 = .ok (.dconst 1, 1) := by decide +kernel
theorem dX12_rest_92 : decode cX12_rest 92 = .ok (.drem, 1) := by decide +kernel
theorem dX12_rest_93 : decode cX12_rest 93 = .ok (.invokestatic 399, 3) := by decide +kernel
theorem dX12_rest_96 : decode cX12_rest 96 = .ok (.lreturn, 1) := by decide +kernel
theorem dX12_match_0 : decode cX12_match 0 = .ok (.aload_n 0, 1) := by decide +kernel
theorem dX12_match_1 : decode cX12_match 1 = .ok (.iload_n 1, 1) := by decide +kernel
theorem dX12_match_2 : decode cX12_match 2 = .ok (.invokevirtual 284, 3) := by decide +kernel
theorem dX12_match_5 : decode cX12_match 5 = .ok (.ifCond .eq 31, 3) := by decide +kernel
theorem dX12_match_8 : decode cX12_match 8 = .ok (.aload_n 0, 1) := by decide +kernel
theorem dX12_match_9 : decode cX12_match 9 = .ok (.iload_n 2, 1) := by decide +kernel
theorem dX12_match_10 : decode cX12_match 10 = .ok (.invokevirtual 284, 3) := by decide +kernel
theorem dX12_match_13 : decode cX12_match 13 = .ok (.ifCond .eq 23, 3) := by decide +kernel
theorem dX12_match_16 : decode cX12_match 16 = .ok (.iload_n 3, 1) := by decide +kernel
theorem dX12_match_17 : decode cX12_match 17 = .ok (.i2l, 1) := by decide +kernel
theorem dX12_match_18 : decode cX12_match 18 = .ok (.lconst 0, 1) := by decide +kernel
theorem dX12_match_19 : decode cX12_match 19 = .ok (.lconst 1, 1) := by decide +kernel
theorem dX12_match_20 : decode cX12_match 20 = .ok (.invokestatic 120, 3) := by decide +kernel
theorem dX12_match_23 : decode cX12_match 23 = .ok (.ifCond .eq 13, 3) := by decide +kernel
theorem dX12_match_26 : decode cX12_match 26 = .ok (.aload_n 0, 1) := by decide +kernel
theorem dX12_match_27 : decode cX12_match 27 = .ok (.iload_n 1, 1) := by decide +kernel
theorem dX12_match_28 : decode cX12_match 28 = .ok (.iload_n 2, 1) := by decide +kernel
theorem dX12_match_29 : decode cX12_match 29 = .ok (.invokevirtual 294, 3) := by decide +kernel
theorem dX12_match_32 : decode cX12_match 32 = .ok (.iconst (-1), 1) := by decide +kernel
theorem dX12_match_33 : decode cX12_match 33 = .ok (.if_icmp .ne 5, 3) := by decide +kernel
theorem dX12_match_36 : decode cX12_match 36 = .ok (.iconst (-1), 1) := by decide +kernel
theorem dX12_match_37 : decode cX12_match 37 = .ok (.ireturn, 1) := by decide +kernel
theorem dX12_match_38 : decode cX12_match 38 = .ok (.iload_n 3, 1) := by decide +kernel
theorem dX12_match_39 : decode cX12_match 39 = .ok (.ifCond .ne 15, 3) := by decide +kernel
theorem dX12_match_42 : decode cX12_match 42 = .ok (.aload_n 0, 1) := by decide +kernel
theorem dX12_match_43 : decode cX12_match 43 = .ok (.iload_n 1, 1) := by decide +kernel
theorem dX12_match_44 : decode cX12_match 44 = .ok (.iload_n 2, 1) := by decide +kernel
theorem dX12_match_45 : decode cX12_match 45 = .ok (.invokevirtual 294, 3) := by decide +kernel
theorem dX12_match_48 : decode cX12_match 48 = .ok (.bipush 100, 2) := by decide +kernel
theorem dX12_match_50 : decode cX12_match 50 = .ok (.idiv, 1) := by decide +kernel
theorem dX12_match_51 : decode cX12_match 51 = .ok (.goto 12, 3) := by decide +kernel
theorem dX12_match_54 : decode cX12_match 54 = .ok (.aload_n 0, 1) := by decide +kernel
theorem dX12_match_55 : decode cX12_match 55 = .ok (.iload_n 1, 1) := by decide +kernel
theorem dX12_match_56 : decode cX12_match 56 = .ok (.iload_n 2, 1) := by decide +kernel
theorem dX12_match_57 : decode cX12_match 57 = .ok (.invokevirtual 294, 3) := by decide +kernel
theorem dX12_match_60 : decode cX12_match 60 = .ok (.bipush 100, 2) := by decide +kernel
theorem dX12_match_62 : decode cX12_match 62 = .ok (.irem, 1) := by decide +kernel
theorem dX12_match_63 : decode cX12_match 63 = .ok (.ireturn, 1) := by decide +kernel
theorem dX12_above_0 : decode cX12_above 0 = .ok (.aload_n 0, 1) := by decide +kernel
theorem dX12_above_1 : decode cX12_above 1 = .ok (.iload_n 1, 1) := by decide +kernel
theorem dX12_above_2 : decode cX12_above 2 = .ok (.invokevirtual 287, 3) := by decide +kernel
theorem dX12_above_5 : decode cX12_above 5 = .ok (.ifCond .ne 5, 3) := by decide +kernel
theorem dX12_above_8 : decode cX12_above 8 = .ok (.iconst (-1), 1) := by decide +kernel
theorem dX12_above_9 : decode cX12_above 9 = .ok (.ireturn, 1) := by decide +kernel
theorem dX12_above_10 : decode cX12_above 10 = .ok (.aload_n 0, 1) := by decide +kernel
theorem dX12_above_11 : decode cX12_above 11 = .ok (.iload_n 1, 1) := by decide +kernel
theorem dX12_above_12 : decode cX12_above 12 = .ok (.invokevirtual 304, 3) := by decide +kernel
theorem dX12_above_15 : decode cX12_above 15 = .ok (.istore_n 2, 1) := by decide +kernel
theorem dX12_above_16 : decode cX12_above 16 = .ok (.iconst 0, 1) := by decide +kernel
theorem dX12_above_17 : decode cX12_above 17 = .ok (.istore_n 3, 1) := by decide +kernel
theorem dX12_above_18 : decode cX12_above 18 = .ok (.iconst 0, 1) := by decide +kernel
theorem dX12_above_19 : decode cX12_above 19 = .ok (.istore 4, 2) := by decide +kernel
theorem dX12_above_21 : decode cX12_above 21 = .ok (.iload 4, 2) := by decide +kernel
theorem dX12_above_23 : decode cX12_above 23 = .ok (.aload_n 0, 1) := by decide +kernel
theorem dX12_above_24 : decode cX12_above 24 = .ok (.getfield 263, 3) := by decide +kernel
theorem dX12_above_27 : decode cX12_above 27 = .ok (.if_icmp .ge 83, 3) := by decide +kernel
theorem dX12_above_30 : decode cX12_above 30 = .ok (.iload 4, 2) := by decide +kernel
theorem dX12_above_32 : decode cX12_above 32 = .ok (.iload_n 1, 1) := by decide +kernel
theorem dX12_above_33 : decode cX12_above 33 = .ok (.if_icmp .eq 71, 3) := by decide +kernel
theorem dX12_above_36 : decode cX12_above 36 = .ok (.aload_n 0, 1) := by decide +kernel
theorem dX12_above_37 : decode cX12_above 37 = .ok (.iload 4, 2) := by decide +kernel
theorem dX12_above_39 : decode cX12_above 39 = .ok (.iload_n 1, 1) := by decide +kernel
theorem dX12_above_40 : decode cX12_above 40 = .ok (.invokevirtual 272, 3) := by decide +kernel
theorem dX12_above_43 : decode cX12_above 43 = .ok (.ifCond .ne 6, 3) := by decide +kernel
theorem dX12_above_46 : decode cX12_above 46 = .ok (.goto 58, 3) := by decide +kernel
theorem dX12_above_49 : decode cX12_above 49 = .ok (.iconst 2, 1) := by decide +kernel
theorem dX12_above_50 : decode cX12_above 50 = .ok (.aload_n 0, 1) := by decide +kernel
theorem dX12_above_51 : decode cX12_above 51 = .ok (.getfield 7, 3) := by decide +kernel
theorem dX12_above_54 : decode cX12_above 54 = .ok (.iconst 4, 1) := by decide +kernel
theorem dX12_above_55 : decode cX12_above 55 = .ok (.aload_n 0, 1) := by decide +kernel
theorem dX12_above_56 : decode cX12_above 56 = .ok (.getfield 23, 3) := by decide +kernel
theorem dX12_above_59 : decode cX12_above 59 = .ok (.iload_n 1, 1) := by decide +kernel
theorem dX12_above_60 : decode cX12_above 60 = .ok (.iaload, 1) := by decide +kernel
theorem dX12_above_61 : decode cX12_above 61 = .ok (.imul, 1) := by decide +kernel
theorem dX12_above_62 : decode cX12_above 62 = .ok (.iconst 1, 1) := by decide +kernel
theorem dX12_above_63 : decode cX12_above 63 = .ok (.iadd, 1) := by decide +kernel
theorem dX12_above_64 : decode cX12_above 64 = .ok (.iaload, 1) := by decide +kernel
theorem dX12_above_65 : decode cX12_above 65 = .ok (.iconst 1, 1) := by decide +kernel
theorem dX12_above_66 : decode cX12_above 66 = .ok (.isub, 1) := by decide +kernel
theorem dX12_above_67 : decode cX12_above 67 = .ok (.imul, 1) := by decide +kernel
theorem dX12_above_68 : decode cX12_above 68 = .ok (.aload_n 0, 1) := by decide +kernel
theorem dX12_above_69 : decode cX12_above 69 = .ok (.iload 4, 2) := by decide +kernel
theorem dX12_above_71 : decode cX12_above 71 = .ok (.iconst 0, 1) := by decide +kernel
theorem dX12_above_72 : decode cX12_above 72 = .ok (.invokevirtual 301, 3) := by decide +kernel
theorem dX12_above_75 : decode cX12_above 75 = .ok (.isub, 1) := by decide +kernel
theorem dX12_above_76 : decode cX12_above 76 = .ok (.istore 5, 2) := by decide +kernel
theorem dX12_above_78 : decode cX12_above 78 = .ok (.iload_n 3, 1) := by decide +kernel
theorem dX12_above_79 : decode cX12_above 79 = .ok (.aload_n 0, 1) := by decide +kernel
theorem dX12_above_80 : decode cX12_above 80 = .ok (.iload 4, 2) := by decide +kernel
theorem dX12_above_82 : decode cX12_above 82 = .ok (.invokevirtual 304, 3) := by decide +kernel
theorem dX12_above_85 : decode cX12_above 85 = .ok (.iconst 3, 1) := by decide +kernel
theorem dX12_above_86 : decode cX12_above 86 = .ok (.iload 5, 2) := by decide +kernel
theorem dX12_above_88 : decode cX12_above 88 = .ok (.imul, 1) := by decide +kernel
theorem dX12_above_89 : decode cX12_above 89 = .ok (.iadd, 1) := by decide +kernel
theorem dX12_above_90 : decode cX12_above 90 = .ok (.iload_n 2, 1) := by decide +kernel
theorem dX12_above_91 : decode cX12_above 91 = .ok (.if_icmp .lt 7, 3) := by decide +kernel
theorem dX12_above_94 : decode cX12_above 94 = .ok (.iconst 1, 1) := by decide +kernel
theorem dX12_above_95 : decode cX12_above 95 = .ok (.goto 4, 3) := by decide +kernel
theorem dX12_above_98 : decode cX12_above 98 = .ok (.iconst 0, 1) := by decide +kernel
theorem dX12_above_99 : decode cX12_above 99 = .ok (.invokestatic 235, 3) := by decide +kernel
theorem dX12_above_102 : decode cX12_above 102 = .ok (.iadd, 1) := by decide +kernel
theorem dX12_above_103 : decode cX12_above 103 = .ok (.istore_n 3, 1) := by decide +kernel
theorem dX12_above_104 : decode cX12_above 104 = .ok (.iinc 4 1, 3) := by decide +kernel
theorem dX12_above_107 : decode cX12_above 107 = .ok (.goto (-86), 3) := by decide +kernel
theorem dX12_above_110 : decode cX12_above 110 = .ok (.iload_n 3, 1) := by decide +kernel
theorem dX12_above_111 : decode cX12_above 111 = .ok (.ireturn, 1) := by decide +kernel
theorem dX12_journeys_0 : decode cX12_journeys 0 = .ok (.aload_n 0, 1) := by decide +kernel
theorem dX12_journeys_1 : decode cX12_journeys 1 = .ok (.iload_n 1, 1) := by decide +kernel
theorem dX12_journeys_2 : decode cX12_journeys 2 = .ok (.invokevirtual 287, 3) := by decide +kernel
theorem dX12_journeys_5 : decode cX12_journeys 5 = .ok (.ifCond .ne 5, 3) := by decide +kernel
theorem dX12_journeys_8 : decode cX12_journeys 8 = .ok (.iconst (-1), 1) := by decide +kernel
theorem dX12_journeys_9 : decode cX12_journeys 9 = .ok (.ireturn, 1) := by decide +kernel
theorem dX12_journeys_10 : decode cX12_journeys 10 = .ok (.iconst 0, 1) := by decide +kernel
theorem dX12_journeys_11 : decode cX12_journeys 11 = .ok (.istore_n 2, 1) := by decide +kernel
theorem dX12_journeys_12 : decode cX12_journeys 12 = .ok (.iconst 0, 1) := by decide +kernel
theorem dX12_journeys_13 : decode cX12_journeys 13 = .ok (.istore_n 3, 1) := by decide +kernel
theorem dX12_journeys_14 : decode cX12_journeys 14 = .ok (.iload_n 3, 1) := by decide +kernel
theorem dX12_journeys_15 : decode cX12_journeys 15 = .ok (.aload_n 0, 1) := by decide +kernel
theorem dX12_journeys_16 : decode cX12_journeys 16 = .ok (.getfield 263, 3) := by decide +kernel
theorem dX12_journeys_19 : decode cX12_journeys 19 = .ok (.if_icmp .ge 34, 3) := by decide +kernel
theorem dX12_journeys_22 : decode cX12_journeys 22 = .ok (.iload_n 2, 1) := by decide +kernel
theorem dX12_journeys_23 : decode cX12_journeys 23 = .ok (.aload_n 0, 1) := by decide +kernel
theorem dX12_journeys_24 : decode cX12_journeys 24 = .ok (.iload_n 3, 1) := by decide +kernel
theorem dX12_journeys_25 : decode cX12_journeys 25 = .ok (.iload_n 1, 1) := by decide +kernel
theorem dX12_journeys_26 : decode cX12_journeys 26 = .ok (.invokevirtual 294, 3) := by decide +kernel
theorem dX12_journeys_29 : decode cX12_journeys 29 = .ok (.iconst (-1), 1) := by decide +kernel
theorem dX12_journeys_30 : decode cX12_journeys 30 = .ok (.if_icmp .ne 7, 3) := by decide +kernel
theorem dX12_journeys_33 : decode cX12_journeys 33 = .ok (.iconst 0, 1) := by decide +kernel
theorem dX12_journeys_34 : decode cX12_journeys 34 = .ok (.goto 11, 3) := by decide +kernel
theorem dX12_journeys_37 : decode cX12_journeys 37 = .ok (.iconst 2, 1) := by decide +kernel
theorem dX12_journeys_38 : decode cX12_journeys 38 = .ok (.aload_n 0, 1) := by decide +kernel
theorem dX12_journeys_39 : decode cX12_journeys 39 = .ok (.iload_n 3, 1) := by decide +kernel
theorem dX12_journeys_40 : decode cX12_journeys 40 = .ok (.iload_n 1, 1) := by decide +kernel
theorem dX12_journeys_41 : decode cX12_journeys 41 = .ok (.invokevirtual 320, 3) := by decide +kernel
theorem dX12_journeys_44 : decode cX12_journeys 44 = .ok (.imul, 1) := by decide +kernel
theorem dX12_journeys_45 : decode cX12_journeys 45 = .ok (.iadd, 1) := by decide +kernel
theorem dX12_journeys_46 : decode cX12_journeys 46 = .ok (.istore_n 2, 1) := by decide +kernel
theorem dX12_journeys_47 : decode cX12_journeys 47 = .ok (.iinc 3 1, 3) := by decide +kernel
theorem dX12_journeys_50 : decode cX12_journeys 50 = .ok (.goto (-36), 3) := by decide +kernel
theorem dX12_journeys_53 : decode cX12_journeys 53 = .ok (.iload_n 2, 1) := by decide +kernel
theorem dX12_journeys_54 : decode cX12_journeys 54 = .ok (.ireturn, 1) := by decide +kernel
theorem dX12_nearest_0 : decode cX12_nearest 0 = .ok (.aload_n 0, 1) := by decide +kernel
theorem dX12_nearest_1 : decode cX12_nearest 1 = .ok (.iload_n 1, 1) := by decide +kernel
theorem dX12_nearest_2 : decode cX12_nearest 2 = .ok (.invokevirtual 287, 3) := by decide +kernel
theorem dX12_nearest_5 : decode cX12_nearest 5 = .ok (.ifCond .ne 5, 3) := by decide +kernel
theorem dX12_nearest_8 : decode cX12_nearest 8 = .ok (.iconst (-1), 1) := by decide +kernel
theorem dX12_nearest_9 : decode cX12_nearest 9 = .ok (.ireturn, 1) := by decide +kernel
theorem dX12_nearest_10 : decode cX12_nearest 10 = .ok (.iconst (-1), 1) := by decide +kernel
theorem dX12_nearest_11 : decode cX12_nearest 11 = .ok (.istore_n 2, 1) := by decide +kernel
theorem dX12_nearest_12 : decode cX12_nearest 12 = .ok (.iconst 0, 1) := by decide +kernel
theorem dX12_nearest_13 : decode cX12_nearest 13 = .ok (.istore_n 3, 1) := by decide +kernel
theorem dX12_nearest_14 : decode cX12_nearest 14 = .ok (.iload_n 3, 1) := by decide +kernel
theorem dX12_nearest_15 : decode cX12_nearest 15 = .ok (.aload_n 0, 1) := by decide +kernel
theorem dX12_nearest_16 : decode cX12_nearest 16 = .ok (.getfield 263, 3) := by decide +kernel
theorem dX12_nearest_19 : decode cX12_nearest 19 = .ok (.if_icmp .ge 45, 3) := by decide +kernel
theorem dX12_nearest_22 : decode cX12_nearest 22 = .ok (.iload_n 3, 1) := by decide +kernel
theorem dX12_nearest_23 : decode cX12_nearest 23 = .ok (.iload_n 1, 1) := by decide +kernel
theorem dX12_nearest_24 : decode cX12_nearest 24 = .ok (.if_icmp .eq 34, 3) := by decide +kernel
theorem dX12_nearest_27 : decode cX12_nearest 27 = .ok (.aload_n 0, 1) := by decide +kernel
theorem dX12_nearest_28 : decode cX12_nearest 28 = .ok (.iload_n 3, 1) := by decide +kernel
theorem dX12_nearest_29 : decode cX12_nearest 29 = .ok (.iload_n 1, 1) := by decide +kernel
theorem dX12_nearest_30 : decode cX12_nearest 30 = .ok (.invokevirtual 272, 3) := by decide +kernel
theorem dX12_nearest_33 : decode cX12_nearest 33 = .ok (.ifCond .eq 25, 3) := by decide +kernel
theorem dX12_nearest_36 : decode cX12_nearest 36 = .ok (.iload_n 2, 1) := by decide +kernel
theorem dX12_nearest_37 : decode cX12_nearest 37 = .ok (.iconst (-1), 1) := by decide +kernel
theorem dX12_nearest_38 : decode cX12_nearest 38 = .ok (.if_icmp .eq 18, 3) := by decide +kernel
theorem dX12_nearest_41 : decode cX12_nearest 41 = .ok (.aload_n 0, 1) := by decide +kernel
theorem dX12_nearest_42 : decode cX12_nearest 42 = .ok (.iload_n 3, 1) := by decide +kernel
theorem dX12_nearest_43 : decode cX12_nearest 43 = .ok (.iload_n 1, 1) := by decide +kernel
theorem dX12_nearest_44 : decode cX12_nearest 44 = .ok (.invokevirtual 320, 3) := by decide +kernel
theorem dX12_nearest_47 : decode cX12_nearest 47 = .ok (.aload_n 0, 1) := by decide +kernel
theorem dX12_nearest_48 : decode cX12_nearest 48 = .ok (.iload_n 2, 1) := by decide +kernel
theorem dX12_nearest_49 : decode cX12_nearest 49 = .ok (.iload_n 1, 1) := by decide +kernel
theorem dX12_nearest_50 : decode cX12_nearest 50 = .ok (.invokevirtual 320, 3) := by decide +kernel
theorem dX12_nearest_53 : decode cX12_nearest 53 = .ok (.if_icmp .ge 5, 3) := by decide +kernel
theorem dX12_nearest_56 : decode cX12_nearest 56 = .ok (.iload_n 3, 1) := by decide +kernel
theorem dX12_nearest_57 : decode cX12_nearest 57 = .ok (.istore_n 2, 1) := by decide +kernel
theorem dX12_nearest_58 : decode cX12_nearest 58 = .ok (.iinc 3 1, 3) := by decide +kernel
theorem dX12_nearest_61 : decode cX12_nearest 61 = .ok (.goto (-47), 3) := by decide +kernel
theorem dX12_nearest_64 : decode cX12_nearest 64 = .ok (.iload_n 2, 1) := by decide +kernel
theorem dX12_nearest_65 : decode cX12_nearest 65 = .ok (.ireturn, 1) := by decide +kernel
theorem dX12_versus_0 : decode cX12_versus 0 = .ok (.aload_n 0, 1) := by decide +kernel
theorem dX12_versus_1 : decode cX12_versus 1 = .ok (.iload_n 1, 1) := by decide +kernel
theorem dX12_versus_2 : decode cX12_versus 2 = .ok (.invokevirtual 287, 3) := by decide +kernel
theorem dX12_versus_5 : decode cX12_versus 5 = .ok (.ifCond .eq 16, 3) := by decide +kernel
theorem dX12_versus_8 : decode cX12_versus 8 = .ok (.aload_n 0, 1) := by decide +kernel
theorem dX12_versus_9 : decode cX12_versus 9 = .ok (.iload_n 2, 1) := by decide +kernel
theorem dX12_versus_10 : decode cX12_versus 10 = .ok (.invokevirtual 287, 3) := by decide +kernel
theorem dX12_versus_13 : decode cX12_versus 13 = .ok (.ifCond .eq 8, 3) := by decide +kernel
theorem dX12_versus_16 : decode cX12_versus 16 = .ok (.iload_n 1, 1) := by decide +kernel
theorem dX12_versus_17 : decode cX12_versus 17 = .ok (.iload_n 2, 1) := by decide +kernel
theorem dX12_versus_18 : decode cX12_versus 18 = .ok (.if_icmp .ne 5, 3) := by decide +kernel
theorem dX12_versus_21 : decode cX12_versus 21 = .ok (.iconst (-1), 1) := by decide +kernel
theorem dX12_versus_22 : decode cX12_versus 22 = .ok (.ireturn, 1) := by decide +kernel
theorem dX12_versus_23 : decode cX12_versus 23 = .ok (.iconst 0, 1) := by decide +kernel
theorem dX12_versus_24 : decode cX12_versus 24 = .ok (.istore_n 3, 1) := by decide +kernel
theorem dX12_versus_25 : decode cX12_versus 25 = .ok (.iconst 0, 1) := by decide +kernel
theorem dX12_versus_26 : decode cX12_versus 26 = .ok (.istore 4, 2) := by decide +kernel
theorem dX12_versus_28 : decode cX12_versus 28 = .ok (.aload_n 0, 1) := by decide +kernel
theorem dX12_versus_29 : decode cX12_versus 29 = .ok (.iload_n 1, 1) := by decide +kernel
theorem dX12_versus_30 : decode cX12_versus 30 = .ok (.iload_n 2, 1) := by decide +kernel
theorem dX12_versus_31 : decode cX12_versus 31 = .ok (.invokevirtual 294, 3) := by decide +kernel
theorem dX12_versus_34 : decode cX12_versus 34 = .ok (.istore 5, 2) := by decide +kernel
theorem dX12_versus_36 : decode cX12_versus 36 = .ok (.iload 5, 2) := by decide +kernel
theorem dX12_versus_38 : decode cX12_versus 38 = .ok (.iconst (-1), 1) := by decide +kernel
theorem dX12_versus_39 : decode cX12_versus 39 = .ok (.if_icmp .eq 37, 3) := by decide +kernel
theorem dX12_versus_42 : decode cX12_versus 42 = .ok (.iload_n 3, 1) := by decide +kernel
theorem dX12_versus_43 : decode cX12_versus 43 = .ok (.iload 5, 2) := by decide +kernel
theorem dX12_versus_45 : decode cX12_versus 45 = .ok (.bipush 100, 2) := by decide +kernel
theorem dX12_versus_47 : decode cX12_versus 47 = .ok (.idiv, 1) := by decide +kernel
theorem dX12_versus_48 : decode cX12_versus 48 = .ok (.iload 5, 2) := by decide +kernel
theorem dX12_versus_50 : decode cX12_versus 50 = .ok (.bipush 100, 2) := by decide +kernel
theorem dX12_versus_52 : decode cX12_versus 52 = .ok (.irem, 1) := by decide +kernel
theorem dX12_versus_53 : decode cX12_versus 53 = .ok (.invokestatic 405, 3) := by decide +kernel
theorem dX12_versus_56 : decode cX12_versus 56 = .ok (.iadd, 1) := by decide +kernel
theorem dX12_versus_57 : decode cX12_versus 57 = .ok (.istore_n 3, 1) := by decide +kernel
theorem dX12_versus_58 : decode cX12_versus 58 = .ok (.iload 4, 2) := by decide +kernel
theorem dX12_versus_60 : decode cX12_versus 60 = .ok (.iload 5, 2) := by decide +kernel
theorem dX12_versus_62 : decode cX12_versus 62 = .ok (.bipush 100, 2) := by decide +kernel
theorem dX12_versus_64 : decode cX12_versus 64 = .ok (.irem, 1) := by decide +kernel
theorem dX12_versus_65 : decode cX12_versus 65 = .ok (.iload 5, 2) := by decide +kernel
theorem dX12_versus_67 : decode cX12_versus 67 = .ok (.bipush 100, 2) := by decide +kernel
theorem dX12_versus_69 : decode cX12_versus 69 = .ok (.idiv, 1) := by decide +kernel
theorem dX12_versus_70 : decode cX12_versus 70 = .ok (.invokestatic 405, 3) := by decide +kernel
theorem dX12_versus_73 : decode cX12_versus 73 = .ok (.iadd, 1) := by decide +kernel
theorem dX12_versus_74 : decode cX12_versus 74 = .ok (.istore 4, 2) := by decide +kernel
theorem dX12_versus_76 : decode cX12_versus 76 = .ok (.aload_n 0, 1) := by decide +kernel
theorem dX12_versus_77 : decode cX12_versus 77 = .ok (.iload_n 2, 1) := by decide +kernel
theorem dX12_versus_78 : decode cX12_versus 78 = .ok (.iload_n 1, 1) := by decide +kernel
theorem dX12_versus_79 : decode cX12_versus 79 = .ok (.invokevirtual 294, 3) := by decide +kernel
theorem dX12_versus_82 : decode cX12_versus 82 = .ok (.istore 5, 2) := by decide +kernel
theorem dX12_versus_84 : decode cX12_versus 84 = .ok (.iload 5, 2) := by decide +kernel
theorem dX12_versus_86 : decode cX12_versus 86 = .ok (.iconst (-1), 1) := by decide +kernel
theorem dX12_versus_87 : decode cX12_versus 87 = .ok (.if_icmp .eq 37, 3) := by decide +kernel
theorem dX12_versus_90 : decode cX12_versus 90 = .ok (.iload_n 3, 1) := by decide +kernel
theorem dX12_versus_91 : decode cX12_versus 91 = .ok (.iload 5, 2) := by decide +kernel
theorem dX12_versus_93 : decode cX12_versus 93 = .ok (.bipush 100, 2) := by decide +kernel
theorem dX12_versus_95 : decode cX12_versus 95 = .ok (.irem, 1) := by decide +kernel
theorem dX12_versus_96 : decode cX12_versus 96 = .ok (.iload 5, 2) := by decide +kernel
theorem dX12_versus_98 : decode cX12_versus 98 = .ok (.bipush 100, 2) := by decide +kernel
theorem dX12_versus_100 : decode cX12_versus 100 = .ok (.idiv, 1) := by decide +kernel
theorem dX12_versus_101 : decode cX12_versus 101 = .ok (.invokestatic 405, 3) := by decide +kernel
theorem dX12_versus_104 : decode cX12_versus 104 = .ok (.iadd, 1) := by decide +kernel
theorem dX12_versus_105 : decode cX12_versus 105 = .ok (.istore_n 3, 1) := by decide +kernel
theorem dX12_versus_106 : decode cX12_versus 106 = .ok (.iload 4, 2) := by decide +kernel
theorem dX12_versus_108 : decode cX12_versus 108 = .ok (.iload 5, 2) := by decide +kernel
theorem dX12_versus_110 : decode cX12_versus 110 = .ok (.bipush 100, 2) := by decide +kernel
theorem dX12_versus_112 : decode cX12_versus 112 = .ok (.idiv, 1) := by decide +kernel
theorem dX12_versus_113 : decode cX12_versus 113 = .ok (.iload 5, 2) := by decide +kernel
theorem dX12_versus_115 : decode cX12_versus 115 = .ok (.bipush 100, 2) := by decide +kernel
theorem dX12_versus_117 : decode cX12_versus 117 = .ok (.irem, 1) := by decide +kernel
theorem dX12_versus_118 : decode cX12_versus 118 = .ok (.invokestatic 405, 3) := by decide +kernel
theorem dX12_versus_121 : decode cX12_versus 121 = .ok (.iadd, 1) := by decide +kernel
theorem dX12_versus_122 : decode cX12_versus 122 = .ok (.istore 4, 2) := by decide +kernel
theorem dX12_versus_124 : decode cX12_versus 124 = .ok (.bipush 10, 2) := by decide +kernel
theorem dX12_versus_126 : decode cX12_versus 126 = .ok (.iload_n 3, 1) := by decide +kernel
theorem dX12_versus_127 : decode cX12_versus 127 = .ok (.imul, 1) := by decide +kernel
theorem dX12_versus_128 : decode cX12_versus 128 = .ok (.iload 4, 2) := by decide +kernel
theorem dX12_versus_130 : decode cX12_versus 130 = .ok (.iadd, 1) := by decide +kernel
theorem dX12_versus_131 : decode cX12_versus 131 = .ok (.ireturn, 1) := by decide +kernel
theorem dX12_strangers_0 : decode cX12_strangers 0 = .ok (.aload_n 0, 1) := by decide +kernel
theorem dX12_strangers_1 : decode cX12_strangers 1 = .ok (.iload_n 1, 1) := by decide +kernel
theorem dX12_strangers_2 : decode cX12_strangers 2 = .ok (.invokevirtual 381, 3) := by decide +kernel
theorem dX12_strangers_5 : decode cX12_strangers 5 = .ok (.ifCond .ne 5, 3) := by decide +kernel
theorem dX12_strangers_8 : decode cX12_strangers 8 = .ok (.iconst (-1), 1) := by decide +kernel
theorem dX12_strangers_9 : decode cX12_strangers 9 = .ok (.ireturn, 1) := by decide +kernel
theorem dX12_strangers_10 : decode cX12_strangers 10 = .ok (.iconst 0, 1) := by decide +kernel
theorem dX12_strangers_11 : decode cX12_strangers 11 = .ok (.istore_n 2, 1) := by decide +kernel
theorem dX12_strangers_12 : decode cX12_strangers 12 = .ok (.iconst 0, 1) := by decide +kernel
theorem dX12_strangers_13 : decode cX12_strangers 13 = .ok (.istore_n 3, 1) := by decide +kernel
theorem dX12_strangers_14 : decode cX12_strangers 14 = .ok (.iload_n 3, 1) := by decide +kernel
theorem dX12_strangers_15 : decode cX12_strangers 15 = .ok (.aload_n 0, 1) := by decide +kernel
theorem dX12_strangers_16 : decode cX12_strangers 16 = .ok (.getfield 263, 3) := by decide +kernel
theorem dX12_strangers_19 : decode cX12_strangers 19 = .ok (.if_icmp .ge 102, 3) := by decide +kernel
theorem dX12_strangers_22 : decode cX12_strangers 22 = .ok (.iconst 0, 1) := by decide +kernel
theorem dX12_strangers_23 : decode cX12_strangers 23 = .ok (.istore 4, 2) := by decide +kernel
theorem dX12_strangers_25 : decode cX12_strangers 25 = .ok (.iconst 0, 1) := by decide +kernel
theorem dX12_strangers_26 : decode cX12_strangers 26 = .ok (.istore 5, 2) := by decide +kernel
theorem dX12_strangers_28 : decode cX12_strangers 28 = .ok (.iload 5, 2) := by decide +kernel
theorem dX12_strangers_30 : decode cX12_strangers 30 = .ok (.aload_n 0, 1) := by decide +kernel
theorem dX12_strangers_31 : decode cX12_strangers 31 = .ok (.getfield 7, 3) := by decide +kernel
theorem dX12_strangers_34 : decode cX12_strangers 34 = .ok (.iconst 4, 1) := by decide +kernel
theorem dX12_strangers_35 : decode cX12_strangers 35 = .ok (.iload_n 1, 1) := by decide +kernel
theorem dX12_strangers_36 : decode cX12_strangers 36 = .ok (.imul, 1) := by decide +kernel
theorem dX12_strangers_37 : decode cX12_strangers 37 = .ok (.iconst 0, 1) := by decide +kernel
theorem dX12_strangers_38 : decode cX12_strangers 38 = .ok (.iadd, 1) := by decide +kernel
theorem dX12_strangers_39 : decode cX12_strangers 39 = .ok (.iaload, 1) := by decide +kernel
theorem dX12_strangers_40 : decode cX12_strangers 40 = .ok (.if_icmp .ge 65, 3) := by decide +kernel
theorem dX12_strangers_43 : decode cX12_strangers 43 = .ok (.aload_n 0, 1) := by decide +kernel
theorem dX12_strangers_44 : decode cX12_strangers 44 = .ok (.getfield 23, 3) := by decide +kernel
theorem dX12_strangers_47 : decode cX12_strangers 47 = .ok (.iload_n 3, 1) := by decide +kernel
theorem dX12_strangers_48 : decode cX12_strangers 48 = .ok (.iaload, 1) := by decide +kernel
theorem dX12_strangers_49 : decode cX12_strangers 49 = .ok (.iload_n 1, 1) := by decide +kernel
theorem dX12_strangers_50 : decode cX12_strangers 50 = .ok (.if_icmp .ne 55, 3) := by decide +kernel
theorem dX12_strangers_53 : decode cX12_strangers 53 = .ok (.iload 4, 2) := by decide +kernel
theorem dX12_strangers_55 : decode cX12_strangers 55 = .ok (.ifCond .ne 37, 3) := by decide +kernel
theorem dX12_strangers_58 : decode cX12_strangers 58 = .ok (.iload 5, 2) := by decide +kernel
theorem dX12_strangers_60 : decode cX12_strangers 60 = .ok (.aload_n 0, 1) := by decide +kernel
theorem dX12_strangers_61 : decode cX12_strangers 61 = .ok (.getfield 26, 3) := by decide +kernel
theorem dX12_strangers_64 : decode cX12_strangers 64 = .ok (.iload_n 3, 1) := by decide +kernel
theorem dX12_strangers_65 : decode cX12_strangers 65 = .ok (.iaload, 1) := by decide +kernel
theorem dX12_strangers_66 : decode cX12_strangers 66 = .ok (.if_icmp .eq 30, 3) := by decide +kernel
theorem dX12_strangers_69 : decode cX12_strangers 69 = .ok (.aload_n 0, 1) := by decide +kernel
theorem dX12_strangers_70 : decode cX12_strangers 70 = .ok (.iload_n 3, 1) := by decide +kernel
theorem dX12_strangers_71 : decode cX12_strangers 71 = .ok (.iload_n 1, 1) := by decide +kernel
theorem dX12_strangers_72 : decode cX12_strangers 72 = .ok (.iload 5, 2) := by decide +kernel
theorem dX12_strangers_74 : decode cX12_strangers 74 = .ok (.invokevirtual 323, 3) := by decide +kernel
theorem dX12_strangers_77 : decode cX12_strangers 77 = .ok (.aload_n 0, 1) := by decide +kernel
theorem dX12_strangers_78 : decode cX12_strangers 78 = .ok (.iload_n 3, 1) := by decide +kernel
theorem dX12_strangers_79 : decode cX12_strangers 79 = .ok (.iload_n 1, 1) := by decide +kernel
theorem dX12_strangers_80 : decode cX12_strangers 80 = .ok (.aload_n 0, 1) := by decide +kernel
theorem dX12_strangers_81 : decode cX12_strangers 81 = .ok (.getfield 26, 3) := by decide +kernel
theorem dX12_strangers_84 : decode cX12_strangers 84 = .ok (.iload_n 3, 1) := by decide +kernel
theorem dX12_strangers_85 : decode cX12_strangers 85 = .ok (.iaload, 1) := by decide +kernel
theorem dX12_strangers_86 : decode cX12_strangers 86 = .ok (.invokevirtual 323, 3) := by decide +kernel
theorem dX12_strangers_89 : decode cX12_strangers 89 = .ok (.if_icmp .ge 7, 3) := by decide +kernel
theorem dX12_strangers_92 : decode cX12_strangers 92 = .ok (.iconst 1, 1) := by decide +kernel
theorem dX12_strangers_93 : decode cX12_strangers 93 = .ok (.goto 4, 3) := by decide +kernel
theorem dX12_strangers_96 : decode cX12_strangers 96 = .ok (.iconst 0, 1) := by decide +kernel
theorem dX12_strangers_97 : decode cX12_strangers 97 = .ok (.istore 4, 2) := by decide +kernel
theorem dX12_strangers_99 : decode cX12_strangers 99 = .ok (.iinc 5 1, 3) := by decide +kernel
theorem dX12_strangers_102 : decode cX12_strangers 102 = .ok (.goto (-74), 3) := by decide +kernel
theorem dX12_strangers_105 : decode cX12_strangers 105 = .ok (.iload_n 2, 1) := by decide +kernel
theorem dX12_strangers_106 : decode cX12_strangers 106 = .ok (.iload 4, 2) := by decide +kernel
theorem dX12_strangers_108 : decode cX12_strangers 108 = .ok (.invokestatic 235, 3) := by decide +kernel
theorem dX12_strangers_111 : decode cX12_strangers 111 = .ok (.iload_n 3, 1) := by decide +kernel
theorem dX12_strangers_112 : decode cX12_strangers 112 = .ok (.ishl, 1) := by decide +kernel
theorem dX12_strangers_113 : decode cX12_strangers 113 = .ok (.ior, 1) := by decide +kernel
theorem dX12_strangers_114 : decode cX12_strangers 114 = .ok (.istore_n 2, 1) := by decide +kernel
theorem dX12_strangers_115 : decode cX12_strangers 115 = .ok (.iinc 3 1, 3) := by decide +kernel
theorem dX12_strangers_118 : decode cX12_strangers 118 = .ok (.goto (-104), 3) := by decide +kernel
theorem dX12_strangers_121 : decode cX12_strangers 121 = .ok (.iload_n 2, 1) := by decide +kernel
theorem dX12_strangers_122 : decode cX12_strangers 122 = .ok (.ireturn, 1) := by decide +kernel
theorem dX12_says_0 : decode cX12_says 0 = .ok (.aload_n 0, 1) := by decide +kernel
theorem dX12_says_1 : decode cX12_says 1 = .ok (.getfield 107, 3) := by decide +kernel
theorem dX12_says_4 : decode cX12_says 4 = .ok (.aload_n 0, 1) := by decide +kernel
theorem dX12_says_5 : decode cX12_says 5 = .ok (.getfield 408, 3) := by decide +kernel
theorem dX12_says_8 : decode cX12_says 8 = .ok (.iload_n 1, 1) := by decide +kernel
theorem dX12_says_9 : decode cX12_says 9 = .ok (.iastore, 1) := by decide +kernel
theorem dX12_says_10 : decode cX12_says 10 = .ok (.aload_n 0, 1) := by decide +kernel
theorem dX12_says_11 : decode cX12_says 11 = .ok (.dup, 1) := by decide +kernel
theorem dX12_says_12 : decode cX12_says 12 = .ok (.getfield 408, 3) := by decide +kernel
theorem dX12_says_15 : decode cX12_says 15 = .ok (.iconst 1, 1) := by decide +kernel
theorem dX12_says_16 : decode cX12_says 16 = .ok (.iadd, 1) := by decide +kernel
theorem dX12_says_17 : decode cX12_says 17 = .ok (.putfield 408, 3) := by decide +kernel
theorem dX12_says_20 : decode cX12_says 20 = .ok (.return_, 1) := by decide +kernel
theorem dX12_saysNumber_0 : decode cX12_saysNumber 0 = .ok (.iload_n 1, 1) := by decide +kernel
theorem dX12_saysNumber_1 : decode cX12_saysNumber 1 = .ok (.ifCond .ge 9, 3) := by decide +kernel
theorem dX12_saysNumber_4 : decode cX12_saysNumber 4 = .ok (.aload_n 0, 1) := by decide +kernel
theorem dX12_saysNumber_5 : decode cX12_saysNumber 5 = .ok (.bipush 45, 2) := by decide +kernel
theorem dX12_saysNumber_7 : decode cX12_saysNumber 7 = .ok (.invokevirtual 411, 3) := by decide +kernel
theorem dX12_saysNumber_10 : decode cX12_saysNumber 10 = .ok (.iload_n 1, 1) := by decide +kernel
theorem dX12_saysNumber_11 : decode cX12_saysNumber 11 = .ok (.ifCond .ge 8, 3) := by decide +kernel
theorem dX12_saysNumber_14 : decode cX12_saysNumber 14 = .ok (.iload_n 1, 1) := by decide +kernel
theorem dX12_saysNumber_15 : decode cX12_saysNumber 15 = .ok (.ineg, 1) := by decide +kernel
theorem dX12_saysNumber_16 : decode cX12_saysNumber 16 = .ok (.goto 4, 3) := by decide +kernel
theorem dX12_saysNumber_19 : decode cX12_saysNumber 19 = .ok (.iload_n 1, 1) := by decide +kernel
theorem dX12_saysNumber_20 : decode cX12_saysNumber 20 = .ok (.istore_n 2, 1) := by decide +kernel
theorem dX12_saysNumber_21 : decode cX12_saysNumber 21 = .ok (.iconst 1, 1) := by decide +kernel
theorem dX12_saysNumber_22 : decode cX12_saysNumber 22 = .ok (.istore_n 3, 1) := by decide +kernel
theorem dX12_saysNumber_23 : decode cX12_saysNumber 23 = .ok (.iload_n 2, 1) := by decide +kernel
theorem dX12_saysNumber_24 : decode cX12_saysNumber 24 = .ok (.iload_n 3, 1) := by decide +kernel
theorem dX12_saysNumber_25 : decode cX12_saysNumber 25 = .ok (.idiv, 1) := by decide +kernel
theorem dX12_saysNumber_26 : decode cX12_saysNumber 26 = .ok (.bipush 9, 2) := by decide +kernel
theorem dX12_saysNumber_28 : decode cX12_saysNumber 28 = .ok (.if_icmp .le 11, 3) := by decide +kernel
theorem dX12_saysNumber_31 : decode cX12_saysNumber 31 = .ok (.iload_n 3, 1) := by decide +kernel
theorem dX12_saysNumber_32 : decode cX12_saysNumber 32 = .ok (.bipush 10, 2) := by decide +kernel
theorem dX12_saysNumber_34 : decode cX12_saysNumber 34 = .ok (.imul, 1) := by decide +kernel
theorem dX12_saysNumber_35 : decode cX12_saysNumber 35 = .ok (.istore_n 3, 1) := by decide +kernel
theorem dX12_saysNumber_36 : decode cX12_saysNumber 36 = .ok (.goto (-13), 3) := by decide +kernel
theorem dX12_saysNumber_39 : decode cX12_saysNumber 39 = .ok (.iload_n 3, 1) := by decide +kernel
theorem dX12_saysNumber_40 : decode cX12_saysNumber 40 = .ok (.ifCond .le 24, 3) := by decide +kernel
theorem dX12_saysNumber_43 : decode cX12_saysNumber 43 = .ok (.aload_n 0, 1) := by decide +kernel
theorem dX12_saysNumber_44 : decode cX12_saysNumber 44 = .ok (.bipush 48, 2) := by decide +kernel
theorem dX12_saysNumber_46 : decode cX12_saysNumber 46 = .ok (.iload_n 2, 1) := by decide +kernel
theorem dX12_saysNumber_47 : decode cX12_saysNumber 47 = .ok (.iload_n 3, 1) := by decide +kernel
theorem dX12_saysNumber_48 : decode cX12_saysNumber 48 = .ok (.idiv, 1) := by decide +kernel
theorem dX12_saysNumber_49 : decode cX12_saysNumber 49 = .ok (.bipush 10, 2) := by decide +kernel
theorem dX12_saysNumber_51 : decode cX12_saysNumber 51 = .ok (.irem, 1) := by decide +kernel
theorem dX12_saysNumber_52 : decode cX12_saysNumber 52 = .ok (.iadd, 1) := by decide +kernel
theorem dX12_saysNumber_53 : decode cX12_saysNumber 53 = .ok (.invokevirtual 411, 3) := by decide +kernel
theorem dX12_saysNumber_56 : decode cX12_saysNumber 56 = .ok (.iload_n 3, 1) := by decide +kernel
theorem dX12_saysNumber_57 : decode cX12_saysNumber 57 = .ok (.bipush 10, 2) := by decide +kernel
theorem dX12_saysNumber_59 : decode cX12_saysNumber 59 = .ok (.idiv, 1) := by decide +kernel
theorem dX12_saysNumber_60 : decode cX12_saysNumber 60 = .ok (.istore_n 3, 1) := by decide +kernel
theorem dX12_saysNumber_61 : decode cX12_saysNumber 61 = .ok (.goto (-22), 3) := by decide +kernel
theorem dX12_saysNumber_64 : decode cX12_saysNumber 64 = .ok (.return_, 1) := by decide +kernel
theorem dX12_show_0 : decode cX12_show 0 = .ok (.aload_n 0, 1) := by decide +kernel
theorem dX12_show_1 : decode cX12_show 1 = .ok (.iload_n 1, 1) := by decide +kernel
theorem dX12_show_2 : decode cX12_show 2 = .ok (.iload_n 2, 1) := by decide +kernel
theorem dX12_show_3 : decode cX12_show 3 = .ok (.invokevirtual 384, 3) := by decide +kernel
theorem dX12_show_6 : decode cX12_show 6 = .ok (.ifCond .ne 5, 3) := by decide +kernel
theorem dX12_show_9 : decode cX12_show 9 = .ok (.iconst (-1), 1) := by decide +kernel
theorem dX12_show_10 : decode cX12_show 10 = .ok (.ireturn, 1) := by decide +kernel
theorem dX12_show_11 : decode cX12_show 11 = .ok (.aload_n 0, 1) := by decide +kernel
theorem dX12_show_12 : decode cX12_show 12 = .ok (.iconst 0, 1) := by decide +kernel
theorem dX12_show_13 : decode cX12_show 13 = .ok (.putfield 408, 3) := by decide +kernel
theorem dX12_show_16 : decode cX12_show 16 = .ok (.iconst 1, 1) := by decide +kernel
theorem dX12_show_17 : decode cX12_show 17 = .ok (.istore_n 3, 1) := by decide +kernel
theorem dX12_show_18 : decode cX12_show 18 = .ok (.iload_n 3, 1) := by decide +kernel
theorem dX12_show_19 : decode cX12_show 19 = .ok (.aload_n 0, 1) := by decide +kernel
theorem dX12_show_20 : decode cX12_show 20 = .ok (.getfield 7, 3) := by decide +kernel
theorem dX12_show_23 : decode cX12_show 23 = .ok (.iconst 4, 1) := by decide +kernel
theorem dX12_show_24 : decode cX12_show 24 = .ok (.iload_n 1, 1) := by decide +kernel
theorem dX12_show_25 : decode cX12_show 25 = .ok (.imul, 1) := by decide +kernel
theorem dX12_show_26 : decode cX12_show 26 = .ok (.iconst 1, 1) := by decide +kernel
theorem dX12_show_27 : decode cX12_show 27 = .ok (.iadd, 1) := by decide +kernel
theorem dX12_show_28 : decode cX12_show 28 = .ok (.iaload, 1) := by decide +kernel
theorem dX12_show_29 : decode cX12_show 29 = .ok (.if_icmp .gt 113, 3) := by decide +kernel
theorem dX12_show_32 : decode cX12_show 32 = .ok (.aload_n 0, 1) := by decide +kernel
theorem dX12_show_33 : decode cX12_show 33 = .ok (.iload_n 1, 1) := by decide +kernel
theorem dX12_show_34 : decode cX12_show 34 = .ok (.iload_n 2, 1) := by decide +kernel
theorem dX12_show_35 : decode cX12_show 35 = .ok (.iload_n 3, 1) := by decide +kernel
theorem dX12_show_36 : decode cX12_show 36 = .ok (.invokevirtual 414, 3) := by decide +kernel
theorem dX12_show_39 : decode cX12_show 39 = .ok (.istore 4, 2) := by decide +kernel
theorem dX12_show_41 : decode cX12_show 41 = .ok (.bipush 30, 2) := by decide +kernel
theorem dX12_show_43 : decode cX12_show 43 = .ok (.istore 5, 2) := by decide +kernel
theorem dX12_show_45 : decode cX12_show 45 = .ok (.iload 5, 2) := by decide +kernel
theorem dX12_show_47 : decode cX12_show 47 = .ok (.ifCond .lt 50, 3) := by decide +kernel
theorem dX12_show_50 : decode cX12_show 50 = .ok (.aload_n 0, 1) := by decide +kernel
theorem dX12_show_51 : decode cX12_show 51 = .ok (.getfield 13, 3) := by decide +kernel
theorem dX12_show_54 : decode cX12_show 54 = .ok (.iload 4, 2) := by decide +kernel
theorem dX12_show_56 : decode cX12_show 56 = .ok (.laload, 1) := by decide +kernel
theorem dX12_show_57 : decode cX12_show 57 = .ok (.iload 5, 2) := by decide +kernel
theorem dX12_show_59 : decode cX12_show 59 = .ok (.lshr, 1) := by decide +kernel
theorem dX12_show_60 : decode cX12_show 60 = .ok (.ldc2_w 417, 3) := by decide +kernel
theorem dX12_show_63 : decode cX12_show 63 = .ok (.land, 1) := by decide +kernel
theorem dX12_show_64 : decode cX12_show 64 = .ok (.lconst 0, 1) := by decide +kernel
theorem dX12_show_65 : decode cX12_show 65 = .ok (.lcmp, 1) := by decide +kernel
theorem dX12_show_66 : decode cX12_show 66 = .ok (.ifCond .eq 25, 3) := by decide +kernel
theorem dX12_show_69 : decode cX12_show 69 = .ok (.aload_n 0, 1) := by decide +kernel
theorem dX12_show_70 : decode cX12_show 70 = .ok (.bipush 96, 2) := by decide +kernel
theorem dX12_show_72 : decode cX12_show 72 = .ok (.aload_n 0, 1) := by decide +kernel
theorem dX12_show_73 : decode cX12_show 73 = .ok (.getfield 13, 3) := by decide +kernel
theorem dX12_show_76 : decode cX12_show 76 = .ok (.iload 4, 2) := by decide +kernel
theorem dX12_show_78 : decode cX12_show 78 = .ok (.laload, 1) := by decide +kernel
theorem dX12_show_79 : decode cX12_show 79 = .ok (.iload 5, 2) := by decide +kernel
theorem dX12_show_81 : decode cX12_show 81 = .ok (.lshr, 1) := by decide +kernel
theorem dX12_show_82 : decode cX12_show 82 = .ok (.ldc2_w 417, 3) := by decide +kernel
theorem dX12_show_85 : decode cX12_show 85 = .ok (.land, 1) := by decide +kernel
theorem dX12_show_86 : decode cX12_show 86 = .ok (.l2i, 1) := by decide +kernel
theorem dX12_show_87 : decode cX12_show 87 = .ok (.iadd, 1) := by decide +kernel
theorem dX12_show_88 : decode cX12_show 88 = .ok (.invokevirtual 411, 3) := by decide +kernel
theorem dX12_show_91 : decode cX12_show 91 = .ok (.iinc 5 (-5), 3) := by decide +kernel
theorem dX12_show_94 : decode cX12_show 94 = .ok (.goto (-49), 3) := by decide +kernel
theorem dX12_show_97 : decode cX12_show 97 = .ok (.aload_n 0, 1) := by decide +kernel
theorem dX12_show_98 : decode cX12_show 98 = .ok (.bipush 32, 2) := by decide +kernel
theorem dX12_show_100 : decode cX12_show 100 = .ok (.invokevirtual 411, 3) := by decide +kernel
theorem dX12_show_103 : decode cX12_show 103 = .ok (.aload_n 0, 1) := by decide +kernel
theorem dX12_show_104 : decode cX12_show 104 = .ok (.aload_n 0, 1) := by decide +kernel
theorem dX12_show_105 : decode cX12_show 105 = .ok (.iload 4, 2) := by decide +kernel
theorem dX12_show_107 : decode cX12_show 107 = .ok (.invokevirtual 304, 3) := by decide +kernel
theorem dX12_show_110 : decode cX12_show 110 = .ok (.invokevirtual 419, 3) := by decide +kernel
theorem dX12_show_113 : decode cX12_show 113 = .ok (.aload_n 0, 1) := by decide +kernel
theorem dX12_show_114 : decode cX12_show 114 = .ok (.bipush 32, 2) := by decide +kernel
theorem dX12_show_116 : decode cX12_show 116 = .ok (.invokevirtual 411, 3) := by decide +kernel
theorem dX12_show_119 : decode cX12_show 119 = .ok (.aload_n 0, 1) := by decide +kernel
theorem dX12_show_120 : decode cX12_show 120 = .ok (.aload_n 0, 1) := by decide +kernel
theorem dX12_show_121 : decode cX12_show 121 = .ok (.iload 4, 2) := by decide +kernel
theorem dX12_show_123 : decode cX12_show 123 = .ok (.iconst 0, 1) := by decide +kernel
theorem dX12_show_124 : decode cX12_show 124 = .ok (.invokevirtual 301, 3) := by decide +kernel
theorem dX12_show_127 : decode cX12_show 127 = .ok (.invokevirtual 419, 3) := by decide +kernel
theorem dX12_show_130 : decode cX12_show 130 = .ok (.aload_n 0, 1) := by decide +kernel
theorem dX12_show_131 : decode cX12_show 131 = .ok (.bipush 59, 2) := by decide +kernel
theorem dX12_show_133 : decode cX12_show 133 = .ok (.invokevirtual 411, 3) := by decide +kernel
theorem dX12_show_136 : decode cX12_show 136 = .ok (.iinc 3 1, 3) := by decide +kernel
theorem dX12_show_139 : decode cX12_show 139 = .ok (.goto (-121), 3) := by decide +kernel
theorem dX12_show_142 : decode cX12_show 142 = .ok (.aload_n 0, 1) := by decide +kernel
theorem dX12_show_143 : decode cX12_show 143 = .ok (.getfield 408, 3) := by decide +kernel
theorem dX12_show_146 : decode cX12_show 146 = .ok (.ireturn, 1) := by decide +kernel
theorem dX12_out_0 : decode cX12_out 0 = .ok (.iload_n 1, 1) := by decide +kernel
theorem dX12_out_1 : decode cX12_out 1 = .ok (.i2l, 1) := by decide +kernel
theorem dX12_out_2 : decode cX12_out 2 = .ok (.lconst 0, 1) := by decide +kernel
theorem dX12_out_3 : decode cX12_out 3 = .ok (.aload_n 0, 1) := by decide +kernel
theorem dX12_out_4 : decode cX12_out 4 = .ok (.getfield 408, 3) := by decide +kernel
theorem dX12_out_7 : decode cX12_out 7 = .ok (.iconst 1, 1) := by decide +kernel
theorem dX12_out_8 : decode cX12_out 8 = .ok (.isub, 1) := by decide +kernel
theorem dX12_out_9 : decode cX12_out 9 = .ok (.i2l, 1) := by decide +kernel
theorem dX12_out_10 : decode cX12_out 10 = .ok (.invokestatic 120, 3) := by decide +kernel
theorem dX12_out_13 : decode cX12_out 13 = .ok (.ifCond .eq 12, 3) := by decide +kernel
theorem dX12_out_16 : decode cX12_out 16 = .ok (.aload_n 0, 1) := by decide +kernel
theorem dX12_out_17 : decode cX12_out 17 = .ok (.getfield 107, 3) := by decide +kernel
theorem dX12_out_20 : decode cX12_out 20 = .ok (.iload_n 1, 1) := by decide +kernel
theorem dX12_out_21 : decode cX12_out 21 = .ok (.iaload, 1) := by decide +kernel
theorem dX12_out_22 : decode cX12_out 22 = .ok (.goto 4, 3) := by decide +kernel
theorem dX12_out_25 : decode cX12_out 25 = .ok (.iconst (-1), 1) := by decide +kernel
theorem dX12_out_26 : decode cX12_out 26 = .ok (.ireturn, 1) := by decide +kernel
theorem dX12_look_0 : decode cX12_look 0 = .ok (.iconst 0, 1) := by decide +kernel
theorem dX12_look_1 : decode cX12_look 1 = .ok (.istore_n 2, 1) := by decide +kernel
theorem dX12_look_2 : decode cX12_look 2 = .ok (.iconst 0, 1) := by decide +kernel
theorem dX12_look_3 : decode cX12_look 3 = .ok (.istore_n 3, 1) := by decide +kernel
theorem dX12_look_4 : decode cX12_look 4 = .ok (.iconst 0, 1) := by decide +kernel
theorem dX12_look_5 : decode cX12_look 5 = .ok (.istore 4, 2) := by decide +kernel
theorem dX12_look_7 : decode cX12_look 7 = .ok (.iconst 0, 1) := by decide +kernel
theorem dX12_look_8 : decode cX12_look 8 = .ok (.istore 5, 2) := by decide +kernel
theorem dX12_look_10 : decode cX12_look 10 = .ok (.iload 5, 2) := by decide +kernel
theorem dX12_look_12 : decode cX12_look 12 = .ok (.aload_n 0, 1) := by decide +kernel
theorem dX12_look_13 : decode cX12_look 13 = .ok (.getfield 263, 3) := by decide +kernel
theorem dX12_look_16 : decode cX12_look 16 = .ok (.if_icmp .ge 54, 3) := by decide +kernel
theorem dX12_look_19 : decode cX12_look 19 = .ok (.iload_n 2, 1) := by decide +kernel
theorem dX12_look_20 : decode cX12_look 20 = .ok (.aload_n 0, 1) := by decide +kernel
theorem dX12_look_21 : decode cX12_look 21 = .ok (.getfield 23, 3) := by decide +kernel
theorem dX12_look_24 : decode cX12_look 24 = .ok (.iload 5, 2) := by decide +kernel
theorem dX12_look_26 : decode cX12_look 26 = .ok (.iaload, 1) := by decide +kernel
theorem dX12_look_27 : decode cX12_look 27 = .ok (.iconst (-1), 1) := by decide +kernel
theorem dX12_look_28 : decode cX12_look 28 = .ok (.if_icmp .ne 7, 3) := by decide +kernel
theorem dX12_look_31 : decode cX12_look 31 = .ok (.iconst 1, 1) := by decide +kernel
theorem dX12_look_32 : decode cX12_look 32 = .ok (.goto 4, 3) := by decide +kernel
theorem dX12_look_35 : decode cX12_look 35 = .ok (.iconst 0, 1) := by decide +kernel
theorem dX12_look_36 : decode cX12_look 36 = .ok (.invokestatic 235, 3) := by decide +kernel
theorem dX12_look_39 : decode cX12_look 39 = .ok (.iadd, 1) := by decide +kernel
theorem dX12_look_40 : decode cX12_look 40 = .ok (.istore_n 2, 1) := by decide +kernel
theorem dX12_look_41 : decode cX12_look 41 = .ok (.iload_n 3, 1) := by decide +kernel
theorem dX12_look_42 : decode cX12_look 42 = .ok (.aload_n 0, 1) := by decide +kernel
theorem dX12_look_43 : decode cX12_look 43 = .ok (.getfield 23, 3) := by decide +kernel
theorem dX12_look_46 : decode cX12_look 46 = .ok (.iload 5, 2) := by decide +kernel
theorem dX12_look_48 : decode cX12_look 48 = .ok (.iaload, 1) := by decide +kernel
theorem dX12_look_49 : decode cX12_look 49 = .ok (.bipush (-2), 2) := by decide +kernel
theorem dX12_look_51 : decode cX12_look 51 = .ok (.if_icmp .ne 7, 3) := by decide +kernel
theorem dX12_look_54 : decode cX12_look 54 = .ok (.iconst 1, 1) := by decide +kernel
theorem dX12_look_55 : decode cX12_look 55 = .ok (.goto 4, 3) := by decide +kernel
theorem dX12_look_58 : decode cX12_look 58 = .ok (.iconst 0, 1) := by decide +kernel
theorem dX12_look_59 : decode cX12_look 59 = .ok (.invokestatic 235, 3) := by decide +kernel
theorem dX12_look_62 : decode cX12_look 62 = .ok (.iadd, 1) := by decide +kernel
theorem dX12_look_63 : decode cX12_look 63 = .ok (.istore_n 3, 1) := by decide +kernel
theorem dX12_look_64 : decode cX12_look 64 = .ok (.iinc 5 1, 3) := by decide +kernel
theorem dX12_look_67 : decode cX12_look 67 = .ok (.goto (-57), 3) := by decide +kernel
theorem dX12_look_70 : decode cX12_look 70 = .ok (.iconst 0, 1) := by decide +kernel
theorem dX12_look_71 : decode cX12_look 71 = .ok (.istore 5, 2) := by decide +kernel
theorem dX12_look_73 : decode cX12_look 73 = .ok (.iload 5, 2) := by decide +kernel
theorem dX12_look_75 : decode cX12_look 75 = .ok (.sipush 900, 3) := by decide +kernel
theorem dX12_look_78 : decode cX12_look 78 = .ok (.if_icmp .ge 36, 3) := by decide +kernel
theorem dX12_look_81 : decode cX12_look 81 = .ok (.iload 4, 2) := by decide +kernel
theorem dX12_look_83 : decode cX12_look 83 = .ok (.aload_n 0, 1) := by decide +kernel
theorem dX12_look_84 : decode cX12_look 84 = .ok (.getfield 32, 3) := by decide +kernel
theorem dX12_look_87 : decode cX12_look 87 = .ok (.bipush 120, 2) := by decide +kernel
theorem dX12_look_89 : decode cX12_look 89 = .ok (.iload 5, 2) := by decide +kernel
theorem dX12_look_91 : decode cX12_look 91 = .ok (.iadd, 1) := by decide +kernel
theorem dX12_look_92 : decode cX12_look 92 = .ok (.iaload, 1) := by decide +kernel
theorem dX12_look_93 : decode cX12_look 93 = .ok (.iconst (-1), 1) := by decide +kernel
theorem dX12_look_94 : decode cX12_look 94 = .ok (.if_icmp .eq 7, 3) := by decide +kernel
theorem dX12_look_97 : decode cX12_look 97 = .ok (.iconst 1, 1) := by decide +kernel
theorem dX12_look_98 : decode cX12_look 98 = .ok (.goto 4, 3) := by decide +kernel
theorem dX12_look_101 : decode cX12_look 101 = .ok (.iconst 0, 1) := by decide +kernel
theorem dX12_look_102 : decode cX12_look 102 = .ok (.invokestatic 235, 3) := by decide +kernel
theorem dX12_look_105 : decode cX12_look 105 = .ok (.iadd, 1) := by decide +kernel
theorem dX12_look_106 : decode cX12_look 106 = .ok (.istore 4, 2) := by decide +kernel
theorem dX12_look_108 : decode cX12_look 108 = .ok (.iinc 5 1, 3) := by decide +kernel
theorem dX12_look_111 : decode cX12_look 111 = .ok (.goto (-38), 3) := by decide +kernel
theorem dX12_look_114 : decode cX12_look 114 = .ok (.iload_n 1, 1) := by decide +kernel
theorem dX12_look_115 : decode cX12_look 115 = .ok (.tableswitch 77 0 7 #[45, 50, 55, 57, 59, 64, 67, 72], 45) := by decide +kernel
theorem dX12_look_160 : decode cX12_look 160 = .ok (.aload_n 0, 1) := by decide +kernel
theorem dX12_look_161 : decode cX12_look 161 = .ok (.getfield 260, 3) := by decide +kernel
theorem dX12_look_164 : decode cX12_look 164 = .ok (.ireturn, 1) := by decide +kernel
theorem dX12_look_165 : decode cX12_look 165 = .ok (.aload_n 0, 1) := by decide +kernel
theorem dX12_look_166 : decode cX12_look 166 = .ok (.getfield 263, 3) := by decide +kernel
theorem dX12_look_169 : decode cX12_look 169 = .ok (.ireturn, 1) := by decide +kernel
theorem dX12_look_170 : decode cX12_look 170 = .ok (.iload_n 2, 1) := by decide +kernel
theorem dX12_look_171 : decode cX12_look 171 = .ok (.ireturn, 1) := by decide +kernel
theorem dX12_look_172 : decode cX12_look 172 = .ok (.iload_n 3, 1) := by decide +kernel
theorem dX12_look_173 : decode cX12_look 173 = .ok (.ireturn, 1) := by decide +kernel
theorem dX12_look_174 : decode cX12_look 174 = .ok (.aload_n 0, 1) := by decide +kernel
theorem dX12_look_175 : decode cX12_look 175 = .ok (.getfield 266, 3) := by decide +kernel
theorem dX12_look_178 : decode cX12_look 178 = .ok (.ireturn, 1) := by decide +kernel
theorem dX12_look_179 : decode cX12_look 179 = .ok (.iload 4, 2) := by decide +kernel
theorem dX12_look_181 : decode cX12_look 181 = .ok (.ireturn, 1) := by decide +kernel
theorem dX12_look_182 : decode cX12_look 182 = .ok (.aload_n 0, 1) := by decide +kernel
theorem dX12_look_183 : decode cX12_look 183 = .ok (.getfield 110, 3) := by decide +kernel
theorem dX12_look_186 : decode cX12_look 186 = .ok (.ireturn, 1) := by decide +kernel
theorem dX12_look_187 : decode cX12_look 187 = .ok (.aload_n 0, 1) := by decide +kernel
theorem dX12_look_188 : decode cX12_look 188 = .ok (.getfield 113, 3) := by decide +kernel
theorem dX12_look_191 : decode cX12_look 191 = .ok (.ireturn, 1) := by decide +kernel
theorem dX12_look_192 : decode cX12_look 192 = .ok (.iconst (-1), 1) := by decide +kernel
theorem dX12_look_193 : decode cX12_look 193 = .ok (.ireturn, 1) := by decide +kernel
theorem dJxe99ae_isNaN_b9ae7_0 : decode cJxe99ae_isNaN_b9ae7 0 = .ok (.dload_n 0, 1) := by decide +kernel
theorem dJxe99ae_isNaN_b9ae7_1 : decode cJxe99ae_isNaN_b9ae7 1 = .ok (.dload_n 0, 1) := by decide +kernel
theorem dJxe99ae_isNaN_b9ae7_2 : decode cJxe99ae_isNaN_b9ae7 2 = .ok (.dcmp .l, 1) := by decide +kernel
theorem dJxe99ae_isNaN_b9ae7_3 : decode cJxe99ae_isNaN_b9ae7 3 = .ok (.ifCond .eq 7, 3) := by decide +kernel
theorem dJxe99ae_isNaN_b9ae7_6 : decode cJxe99ae_isNaN_b9ae7 6 = .ok (.iconst 1, 1) := by decide +kernel
theorem dJxe99ae_isNaN_b9ae7_7 : decode cJxe99ae_isNaN_b9ae7 7 = .ok (.goto 4, 3) := by decide +kernel
theorem dJxe99ae_isNaN_b9ae7_10 : decode cJxe99ae_isNaN_b9ae7 10 = .ok (.iconst 0, 1) := by decide +kernel
theorem dJxe99ae_isNaN_b9ae7_11 : decode cJxe99ae_isNaN_b9ae7 11 = .ok (.ireturn, 1) := by decide +kernel
theorem dJxe99ae_doubleToLongBits_ccdee_0 : decode cJxe99ae_doubleToLongBits_ccdee 0 = .ok (.dload_n 0, 1) := by decide +kernel
theorem dJxe99ae_doubleToLongBits_ccdee_1 : decode cJxe99ae_doubleToLongBits_ccdee 1 = .ok (.invokestatic 122, 3) := by decide +kernel
theorem dJxe99ae_doubleToLongBits_ccdee_4 : decode cJxe99ae_doubleToLongBits_ccdee 4 = .ok (.ifCond .ne 8, 3) := by decide +kernel
theorem dJxe99ae_doubleToLongBits_ccdee_7 : decode cJxe99ae_doubleToLongBits_ccdee 7 = .ok (.dload_n 0, 1) := by decide +kernel
theorem dJxe99ae_doubleToLongBits_ccdee_8 : decode cJxe99ae_doubleToLongBits_ccdee 8 = .ok (.invokestatic 134, 3) := by decide +kernel
theorem dJxe99ae_doubleToLongBits_ccdee_11 : decode cJxe99ae_doubleToLongBits_ccdee 11 = .ok (.lreturn, 1) := by decide +kernel
theorem dJxe99ae_doubleToLongBits_ccdee_12 : decode cJxe99ae_doubleToLongBits_ccdee 12 = .ok (.ldc2_w 137, 3) := by decide +kernel
theorem dJxe99ae_doubleToLongBits_ccdee_15 : decode cJxe99ae_doubleToLongBits_ccdee 15 = .ok (.lreturn, 1) := by decide +kernel
theorem dJxf58ca_isNaN_12338_0 : decode cJxf58ca_isNaN_12338 0 = .ok (.fload_n 0, 1) := by decide +kernel
theorem dJxf58ca_isNaN_12338_1 : decode cJxf58ca_isNaN_12338 1 = .ok (.fload_n 0, 1) := by decide +kernel
theorem dJxf58ca_isNaN_12338_2 : decode cJxf58ca_isNaN_12338 2 = .ok (.fcmp .l, 1) := by decide +kernel
theorem dJxf58ca_isNaN_12338_3 : decode cJxf58ca_isNaN_12338 3 = .ok (.ifCond .eq 7, 3) := by decide +kernel
theorem dJxf58ca_isNaN_12338_6 : decode cJxf58ca_isNaN_12338 6 = .ok (.iconst 1, 1) := by decide +kernel
theorem dJxf58ca_isNaN_12338_7 : decode cJxf58ca_isNaN_12338 7 = .ok (.goto 4, 3) := by decide +kernel
theorem dJxf58ca_isNaN_12338_10 : decode cJxf58ca_isNaN_12338 10 = .ok (.iconst 0, 1) := by decide +kernel
theorem dJxf58ca_isNaN_12338_11 : decode cJxf58ca_isNaN_12338 11 = .ok (.ireturn, 1) := by decide +kernel
theorem dJxf58ca_floatToIntBits_5c35a_0 : decode cJxf58ca_floatToIntBits_5c35a 0 = .ok (.fload_n 0, 1) := by decide +kernel
theorem dJxf58ca_floatToIntBits_5c35a_1 : decode cJxf58ca_floatToIntBits_5c35a 1 = .ok (.invokestatic 59, 3) := by decide +kernel
theorem dJxf58ca_floatToIntBits_5c35a_4 : decode cJxf58ca_floatToIntBits_5c35a 4 = .ok (.ifCond .ne 8, 3) := by decide +kernel
theorem dJxf58ca_floatToIntBits_5c35a_7 : decode cJxf58ca_floatToIntBits_5c35a 7 = .ok (.fload_n 0, 1) := by decide +kernel
theorem dJxf58ca_floatToIntBits_5c35a_8 : decode cJxf58ca_floatToIntBits_5c35a 8 = .ok (.invokestatic 74, 3) := by decide +kernel
theorem dJxf58ca_floatToIntBits_5c35a_11 : decode cJxf58ca_floatToIntBits_5c35a 11 = .ok (.ireturn, 1) := by decide +kernel
theorem dJxf58ca_floatToIntBits_5c35a_12 : decode cJxf58ca_floatToIntBits_5c35a 12 = .ok (.ldc 77, 2) := by decide +kernel
theorem dJxf58ca_floatToIntBits_5c35a_14 : decode cJxf58ca_floatToIntBits_5c35a 14 = .ok (.ireturn, 1) := by decide +kernel
theorem dJ6_bitCount_0f7a4_0 : decode cJ6_bitCount_0f7a4 0 = .ok (.iload_n 0, 1) := by decide +kernel
theorem dJ6_bitCount_0f7a4_1 : decode cJ6_bitCount_0f7a4 1 = .ok (.iload_n 0, 1) := by decide +kernel
theorem dJ6_bitCount_0f7a4_2 : decode cJ6_bitCount_0f7a4 2 = .ok (.iconst 1, 1) := by decide +kernel
theorem dJ6_bitCount_0f7a4_3 : decode cJ6_bitCount_0f7a4 3 = .ok (.iushr, 1) := by decide +kernel
theorem dJ6_bitCount_0f7a4_4 : decode cJ6_bitCount_0f7a4 4 = .ok (.ldc_w 265, 3) := by decide +kernel
theorem dJ6_bitCount_0f7a4_7 : decode cJ6_bitCount_0f7a4 7 = .ok (.iand, 1) := by decide +kernel
theorem dJ6_bitCount_0f7a4_8 : decode cJ6_bitCount_0f7a4 8 = .ok (.isub, 1) := by decide +kernel
theorem dJ6_bitCount_0f7a4_9 : decode cJ6_bitCount_0f7a4 9 = .ok (.istore_n 0, 1) := by decide +kernel
theorem dJ6_bitCount_0f7a4_10 : decode cJ6_bitCount_0f7a4 10 = .ok (.iload_n 0, 1) := by decide +kernel
theorem dJ6_bitCount_0f7a4_11 : decode cJ6_bitCount_0f7a4 11 = .ok (.ldc_w 266, 3) := by decide +kernel
theorem dJ6_bitCount_0f7a4_14 : decode cJ6_bitCount_0f7a4 14 = .ok (.iand, 1) := by decide +kernel
theorem dJ6_bitCount_0f7a4_15 : decode cJ6_bitCount_0f7a4 15 = .ok (.iload_n 0, 1) := by decide +kernel
theorem dJ6_bitCount_0f7a4_16 : decode cJ6_bitCount_0f7a4 16 = .ok (.iconst 2, 1) := by decide +kernel
theorem dJ6_bitCount_0f7a4_17 : decode cJ6_bitCount_0f7a4 17 = .ok (.iushr, 1) := by decide +kernel
theorem dJ6_bitCount_0f7a4_18 : decode cJ6_bitCount_0f7a4 18 = .ok (.ldc_w 266, 3) := by decide +kernel
theorem dJ6_bitCount_0f7a4_21 : decode cJ6_bitCount_0f7a4 21 = .ok (.iand, 1) := by decide +kernel
theorem dJ6_bitCount_0f7a4_22 : decode cJ6_bitCount_0f7a4 22 = .ok (.iadd, 1) := by decide +kernel
theorem dJ6_bitCount_0f7a4_23 : decode cJ6_bitCount_0f7a4 23 = .ok (.istore_n 0, 1) := by decide +kernel
theorem dJ6_bitCount_0f7a4_24 : decode cJ6_bitCount_0f7a4 24 = .ok (.iload_n 0, 1) := by decide +kernel
theorem dJ6_bitCount_0f7a4_25 : decode cJ6_bitCount_0f7a4 25 = .ok (.iload_n 0, 1) := by decide +kernel
theorem dJ6_bitCount_0f7a4_26 : decode cJ6_bitCount_0f7a4 26 = .ok (.iconst 4, 1) := by decide +kernel
theorem dJ6_bitCount_0f7a4_27 : decode cJ6_bitCount_0f7a4 27 = .ok (.iushr, 1) := by decide +kernel
theorem dJ6_bitCount_0f7a4_28 : decode cJ6_bitCount_0f7a4 28 = .ok (.iadd, 1) := by decide +kernel
theorem dJ6_bitCount_0f7a4_29 : decode cJ6_bitCount_0f7a4 29 = .ok (.ldc_w 267, 3) := by decide +kernel
theorem dJ6_bitCount_0f7a4_32 : decode cJ6_bitCount_0f7a4 32 = .ok (.iand, 1) := by decide +kernel
theorem dJ6_bitCount_0f7a4_33 : decode cJ6_bitCount_0f7a4 33 = .ok (.istore_n 0, 1) := by decide +kernel
theorem dJ6_bitCount_0f7a4_34 : decode cJ6_bitCount_0f7a4 34 = .ok (.iload_n 0, 1) := by decide +kernel
theorem dJ6_bitCount_0f7a4_35 : decode cJ6_bitCount_0f7a4 35 = .ok (.iload_n 0, 1) := by decide +kernel
theorem dJ6_bitCount_0f7a4_36 : decode cJ6_bitCount_0f7a4 36 = .ok (.bipush 8, 2) := by decide +kernel
theorem dJ6_bitCount_0f7a4_38 : decode cJ6_bitCount_0f7a4 38 = .ok (.iushr, 1) := by decide +kernel
theorem dJ6_bitCount_0f7a4_39 : decode cJ6_bitCount_0f7a4 39 = .ok (.iadd, 1) := by decide +kernel
theorem dJ6_bitCount_0f7a4_40 : decode cJ6_bitCount_0f7a4 40 = .ok (.istore_n 0, 1) := by decide +kernel
theorem dJ6_bitCount_0f7a4_41 : decode cJ6_bitCount_0f7a4 41 = .ok (.iload_n 0, 1) := by decide +kernel
theorem dJ6_bitCount_0f7a4_42 : decode cJ6_bitCount_0f7a4 42 = .ok (.iload_n 0, 1) := by decide +kernel
theorem dJ6_bitCount_0f7a4_43 : decode cJ6_bitCount_0f7a4 43 = .ok (.bipush 16, 2) := by decide +kernel
theorem dJ6_bitCount_0f7a4_45 : decode cJ6_bitCount_0f7a4 45 = .ok (.iushr, 1) := by decide +kernel
theorem dJ6_bitCount_0f7a4_46 : decode cJ6_bitCount_0f7a4 46 = .ok (.iadd, 1) := by decide +kernel
theorem dJ6_bitCount_0f7a4_47 : decode cJ6_bitCount_0f7a4 47 = .ok (.istore_n 0, 1) := by decide +kernel
theorem dJ6_bitCount_0f7a4_48 : decode cJ6_bitCount_0f7a4 48 = .ok (.iload_n 0, 1) := by decide +kernel
theorem dJ6_bitCount_0f7a4_49 : decode cJ6_bitCount_0f7a4 49 = .ok (.bipush 63, 2) := by decide +kernel
theorem dJ6_bitCount_0f7a4_51 : decode cJ6_bitCount_0f7a4 51 = .ok (.iand, 1) := by decide +kernel
theorem dJ6_bitCount_0f7a4_52 : decode cJ6_bitCount_0f7a4 52 = .ok (.ireturn, 1) := by decide +kernel
theorem dJ9_abs_0f7a4_0 : decode cJ9_abs_0f7a4 0 = .ok (.iload_n 0, 1) := by decide +kernel
theorem dJ9_abs_0f7a4_1 : decode cJ9_abs_0f7a4 1 = .ok (.ifCond .ge 8, 3) := by decide +kernel
theorem dJ9_abs_0f7a4_4 : decode cJ9_abs_0f7a4 4 = .ok (.iload_n 0, 1) := by decide +kernel
theorem dJ9_abs_0f7a4_5 : decode cJ9_abs_0f7a4 5 = .ok (.ineg, 1) := by decide +kernel
theorem dJ9_abs_0f7a4_6 : decode cJ9_abs_0f7a4 6 = .ok (.goto 4, 3) := by decide +kernel
theorem dJ9_abs_0f7a4_9 : decode cJ9_abs_0f7a4 9 = .ok (.iload_n 0, 1) := by decide +kernel
theorem dJ9_abs_0f7a4_10 : decode cJ9_abs_0f7a4 10 = .ok (.ireturn, 1) := by decide +kernel
theorem dJ9_max_7cf53_0 : decode cJ9_max_7cf53 0 = .ok (.iload_n 0, 1) := by decide +kernel
theorem dJ9_max_7cf53_1 : decode cJ9_max_7cf53 1 = .ok (.iload_n 1, 1) := by decide +kernel
theorem dJ9_max_7cf53_2 : decode cJ9_max_7cf53 2 = .ok (.if_icmp .lt 7, 3) := by decide +kernel
theorem dJ9_max_7cf53_5 : decode cJ9_max_7cf53 5 = .ok (.iload_n 0, 1) := by decide +kernel
theorem dJ9_max_7cf53_6 : decode cJ9_max_7cf53 6 = .ok (.goto 4, 3) := by decide +kernel
theorem dJ9_max_7cf53_9 : decode cJ9_max_7cf53 9 = .ok (.iload_n 1, 1) := by decide +kernel
theorem dJ9_max_7cf53_10 : decode cJ9_max_7cf53 10 = .ok (.ireturn, 1) := by decide +kernel
theorem dJ9_min_7cf53_0 : decode cJ9_min_7cf53 0 = .ok (.iload_n 0, 1) := by decide +kernel
theorem dJ9_min_7cf53_1 : decode cJ9_min_7cf53 1 = .ok (.iload_n 1, 1) := by decide +kernel
theorem dJ9_min_7cf53_2 : decode cJ9_min_7cf53 2 = .ok (.if_icmp .gt 7, 3) := by decide +kernel
theorem dJ9_min_7cf53_5 : decode cJ9_min_7cf53 5 = .ok (.iload_n 0, 1) := by decide +kernel
theorem dJ9_min_7cf53_6 : decode cJ9_min_7cf53 6 = .ok (.goto 4, 3) := by decide +kernel
theorem dJ9_min_7cf53_9 : decode cJ9_min_7cf53 9 = .ok (.iload_n 1, 1) := by decide +kernel
theorem dJ9_min_7cf53_10 : decode cJ9_min_7cf53 10 = .ok (.ireturn, 1) := by decide +kernel
theorem dJ0_length_8abf5_0 : decode cJ0_length_8abf5 0 = .ok (.aload_n 0, 1) := by decide +kernel
theorem dJ0_length_8abf5_1 : decode cJ0_length_8abf5 1 = .ok (.getfield 9, 3) := by decide +kernel
theorem dJ0_length_8abf5_4 : decode cJ0_length_8abf5 4 = .ok (.arraylength, 1) := by decide +kernel
theorem dJ0_length_8abf5_5 : decode cJ0_length_8abf5 5 = .ok (.aload_n 0, 1) := by decide +kernel
theorem dJ0_length_8abf5_6 : decode cJ0_length_8abf5 6 = .ok (.invokevirtual 335, 3) := by decide +kernel
theorem dJ0_length_8abf5_9 : decode cJ0_length_8abf5 9 = .ok (.ishr, 1) := by decide +kernel
theorem dJ0_length_8abf5_10 : decode cJ0_length_8abf5 10 = .ok (.ireturn, 1) := by decide +kernel
theorem dJ0_charAt_5068e_0 : decode cJ0_charAt_5068e 0 = .ok (.aload_n 0, 1) := by decide +kernel
theorem dJ0_charAt_5068e_1 : decode cJ0_charAt_5068e 1 = .ok (.invokevirtual 492, 3) := by decide +kernel
theorem dJ0_charAt_5068e_4 : decode cJ0_charAt_5068e 4 = .ok (.ifCond .eq 12, 3) := by decide +kernel
theorem dJ0_charAt_5068e_7 : decode cJ0_charAt_5068e 7 = .ok (.aload_n 0, 1) := by decide +kernel
theorem dJ0_charAt_5068e_8 : decode cJ0_charAt_5068e 8 = .ok (.getfield 9, 3) := by decide +kernel
theorem dJ0_charAt_5068e_11 : decode cJ0_charAt_5068e 11 = .ok (.iload_n 1, 1) := by decide +kernel
theorem dJ0_charAt_5068e_12 : decode cJ0_charAt_5068e 12 = .ok (.invokestatic 495, 3) := by decide +kernel
theorem dJ0_charAt_5068e_15 : decode cJ0_charAt_5068e 15 = .ok (.ireturn, 1) := by decide +kernel
theorem dJ0_charAt_5068e_16 : decode cJ0_charAt_5068e 16 = .ok (.aload_n 0, 1) := by decide +kernel
theorem dJ0_charAt_5068e_17 : decode cJ0_charAt_5068e 17 = .ok (.getfield 9, 3) := by decide +kernel
theorem dJ0_charAt_5068e_20 : decode cJ0_charAt_5068e 20 = .ok (.iload_n 1, 1) := by decide +kernel
theorem dJ0_charAt_5068e_21 : decode cJ0_charAt_5068e 21 = .ok (.invokestatic 498, 3) := by decide +kernel
theorem dJ0_charAt_5068e_24 : decode cJ0_charAt_5068e 24 = .ok (.ireturn, 1) := by decide +kernel
theorem dJ0_coder_7d493_0 : decode cJ0_coder_7d493 0 = .ok (.getstatic 38, 3) := by decide +kernel
theorem dJ0_coder_7d493_3 : decode cJ0_coder_7d493 3 = .ok (.ifCond .eq 10, 3) := by decide +kernel
theorem dJ0_coder_7d493_6 : decode cJ0_coder_7d493 6 = .ok (.aload_n 0, 1) := by decide +kernel
theorem dJ0_coder_7d493_7 : decode cJ0_coder_7d493 7 = .ok (.getfield 15, 3) := by decide +kernel
theorem dJ0_coder_7d493_10 : decode cJ0_coder_7d493 10 = .ok (.goto 4, 3) := by decide +kernel
theorem dJ0_coder_7d493_13 : decode cJ0_coder_7d493 13 = .ok (.iconst 1, 1) := by decide +kernel
theorem dJ0_coder_7d493_14 : decode cJ0_coder_7d493 14 = .ok (.ireturn, 1) := by decide +kernel
theorem dJ0_isLatin1_aae02_0 : decode cJ0_isLatin1_aae02 0 = .ok (.getstatic 38, 3) := by decide +kernel
theorem dJ0_isLatin1_aae02_3 : decode cJ0_isLatin1_aae02 3 = .ok (.ifCond .eq 14, 3) := by decide +kernel
theorem dJ0_isLatin1_aae02_6 : decode cJ0_isLatin1_aae02 6 = .ok (.aload_n 0, 1) := by decide +kernel
theorem dJ0_isLatin1_aae02_7 : decode cJ0_isLatin1_aae02 7 = .ok (.getfield 15, 3) := by decide +kernel
theorem dJ0_isLatin1_aae02_10 : decode cJ0_isLatin1_aae02 10 = .ok (.ifCond .ne 7, 3) := by decide +kernel
theorem dJ0_isLatin1_aae02_13 : decode cJ0_isLatin1_aae02 13 = .ok (.iconst 1, 1) := by decide +kernel
theorem dJ0_isLatin1_aae02_14 : decode cJ0_isLatin1_aae02 14 = .ok (.goto 4, 3) := by decide +kernel
theorem dJ0_isLatin1_aae02_17 : decode cJ0_isLatin1_aae02 17 = .ok (.iconst 0, 1) := by decide +kernel
theorem dJ0_isLatin1_aae02_18 : decode cJ0_isLatin1_aae02 18 = .ok (.ireturn, 1) := by decide +kernel
theorem dJ0_checkIndex_df160_0 : decode cJ0_checkIndex_df160 0 = .ok (.iload_n 0, 1) := by decide +kernel
theorem dJ0_checkIndex_df160_1 : decode cJ0_checkIndex_df160 1 = .ok (.iload_n 1, 1) := by decide +kernel
theorem dJ0_checkIndex_df160_2 : decode cJ0_checkIndex_df160 2 = .ok (.getstatic 1053, 3) := by decide +kernel
theorem dJ0_checkIndex_df160_5 : decode cJ0_checkIndex_df160 5 = .ok (.invokestatic 1059, 3) := by decide +kernel
theorem dJ0_checkIndex_df160_8 : decode cJ0_checkIndex_df160 8 = .ok (.pop, 1) := by decide +kernel
theorem dJ0_checkIndex_df160_9 : decode cJ0_checkIndex_df160 9 = .ok (.return_, 1) := by decide +kernel
theorem dJ1_charAt_3b067_0 : decode cJ1_charAt_3b067 0 = .ok (.iload_n 1, 1) := by decide +kernel
theorem dJ1_charAt_3b067_1 : decode cJ1_charAt_3b067 1 = .ok (.aload_n 0, 1) := by decide +kernel
theorem dJ1_charAt_3b067_2 : decode cJ1_charAt_3b067 2 = .ok (.arraylength, 1) := by decide +kernel
theorem dJ1_charAt_3b067_3 : decode cJ1_charAt_3b067 3 = .ok (.invokestatic 9, 3) := by decide +kernel
theorem dJ1_charAt_3b067_6 : decode cJ1_charAt_3b067 6 = .ok (.aload_n 0, 1) := by decide +kernel
theorem dJ1_charAt_3b067_7 : decode cJ1_charAt_3b067 7 = .ok (.iload_n 1, 1) := by decide +kernel
theorem dJ1_charAt_3b067_8 : decode cJ1_charAt_3b067 8 = .ok (.baload, 1) := by decide +kernel
theorem dJ1_charAt_3b067_9 : decode cJ1_charAt_3b067 9 = .ok (.sipush 255, 3) := by decide +kernel
theorem dJ1_charAt_3b067_12 : decode cJ1_charAt_3b067 12 = .ok (.iand, 1) := by decide +kernel
theorem dJ1_charAt_3b067_13 : decode cJ1_charAt_3b067 13 = .ok (.i2c, 1) := by decide +kernel
theorem dJ1_charAt_3b067_14 : decode cJ1_charAt_3b067 14 = .ok (.ireturn, 1) := by decide +kernel
theorem dJ2_getChar_3b067_0 : decode cJ2_getChar_3b067 0 = .ok (.getstatic 44, 3) := by decide +kernel
theorem dJ2_getChar_3b067_3 : decode cJ2_getChar_3b067 3 = .ok (.ifCond .ne 25, 3) := by decide +kernel
theorem dJ2_getChar_3b067_6 : decode cJ2_getChar_3b067 6 = .ok (.iload_n 1, 1) := by decide +kernel
theorem dJ2_getChar_3b067_7 : decode cJ2_getChar_3b067 7 = .ok (.ifCond .lt 11, 3) := by decide +kernel
theorem dJ2_getChar_3b067_10 : decode cJ2_getChar_3b067 10 = .ok (.iload_n 1, 1) := by decide +kernel
theorem dJ2_getChar_3b067_11 : decode cJ2_getChar_3b067 11 = .ok (.aload_n 0, 1) := by decide +kernel
theorem dJ2_getChar_3b067_12 : decode cJ2_getChar_3b067 12 = .ok (.invokestatic 48, 3) := by decide +kernel
theorem dJ2_getChar_3b067_15 : decode cJ2_getChar_3b067 15 = .ok (.if_icmp .lt 13, 3) := by decide +kernel
theorem dJ2_getChar_3b067_18 : decode cJ2_getChar_3b067 18 = .ok (.new 52, 3) := by decide +kernel
theorem dJ2_getChar_3b067_21 : decode cJ2_getChar_3b067 21 = .ok (.dup, 1) := by decide +kernel
theorem dJ2_getChar_3b067_22 : decode cJ2_getChar_3b067 22 = .ok (.ldc 54, 2) := by decide +kernel
theorem dJ2_getChar_3b067_24 : decode cJ2_getChar_3b067 24 = .ok (.invokespecial 56, 3) := by decide +kernel
theorem dJ2_getChar_3b067_27 : decode cJ2_getChar_3b067 27 = .ok (.athrow, 1) := by decide +kernel
theorem dJ2_getChar_3b067_28 : decode cJ2_getChar_3b067 28 = .ok (.iload_n 1, 1) := by decide +kernel
theorem dJ2_getChar_3b067_29 : decode cJ2_getChar_3b067 29 = .ok (.iconst 1, 1) := by decide +kernel
theorem dJ2_getChar_3b067_30 : decode cJ2_getChar_3b067 30 = .ok (.ishl, 1) := by decide +kernel
theorem dJ2_getChar_3b067_31 : decode cJ2_getChar_3b067 31 = .ok (.istore_n 1, 1) := by decide +kernel
theorem dJ2_getChar_3b067_32 : decode cJ2_getChar_3b067 32 = .ok (.aload_n 0, 1) := by decide +kernel
theorem dJ2_getChar_3b067_33 : decode cJ2_getChar_3b067 33 = .ok (.iload_n 1, 1) := by decide +kernel
theorem dJ2_getChar_3b067_34 : decode cJ2_getChar_3b067 34 = .ok (.iinc 1 1, 3) := by decide +kernel
theorem dJ2_getChar_3b067_37 : decode cJ2_getChar_3b067 37 = .ok (.baload, 1) := by decide +kernel
theorem dJ2_getChar_3b067_38 : decode cJ2_getChar_3b067 38 = .ok (.sipush 255, 3) := by decide +kernel
theorem dJ2_getChar_3b067_41 : decode cJ2_getChar_3b067 41 = .ok (.iand, 1) := by decide +kernel
theorem dJ2_getChar_3b067_42 : decode cJ2_getChar_3b067 42 = .ok (.getstatic 59, 3) := by decide +kernel
theorem dJ2_getChar_3b067_45 : decode cJ2_getChar_3b067 45 = .ok (.ishl, 1) := by decide +kernel
theorem dJ2_getChar_3b067_46 : decode cJ2_getChar_3b067 46 = .ok (.aload_n 0, 1) := by decide +kernel
theorem dJ2_getChar_3b067_47 : decode cJ2_getChar_3b067 47 = .ok (.iload_n 1, 1) := by decide +kernel
theorem dJ2_getChar_3b067_48 : decode cJ2_getChar_3b067 48 = .ok (.baload, 1) := by decide +kernel
theorem dJ2_getChar_3b067_49 : decode cJ2_getChar_3b067 49 = .ok (.sipush 255, 3) := by decide +kernel
theorem dJ2_getChar_3b067_52 : decode cJ2_getChar_3b067 52 = .ok (.iand, 1) := by decide +kernel
theorem dJ2_getChar_3b067_53 : decode cJ2_getChar_3b067 53 = .ok (.getstatic 63, 3) := by decide +kernel
theorem dJ2_getChar_3b067_56 : decode cJ2_getChar_3b067 56 = .ok (.ishl, 1) := by decide +kernel
theorem dJ2_getChar_3b067_57 : decode cJ2_getChar_3b067 57 = .ok (.ior, 1) := by decide +kernel
theorem dJ2_getChar_3b067_58 : decode cJ2_getChar_3b067 58 = .ok (.i2c, 1) := by decide +kernel
theorem dJ2_getChar_3b067_59 : decode cJ2_getChar_3b067 59 = .ok (.ireturn, 1) := by decide +kernel
theorem dJ2_length_9d52b_0 : decode cJ2_length_9d52b 0 = .ok (.aload_n 0, 1) := by decide +kernel
theorem dJ2_length_9d52b_1 : decode cJ2_length_9d52b 1 = .ok (.arraylength, 1) := by decide +kernel
theorem dJ2_length_9d52b_2 : decode cJ2_length_9d52b 2 = .ok (.iconst 1, 1) := by decide +kernel
theorem dJ2_length_9d52b_3 : decode cJ2_length_9d52b 3 = .ok (.ishr, 1) := by decide +kernel
theorem dJ2_length_9d52b_4 : decode cJ2_length_9d52b 4 = .ok (.ireturn, 1) := by decide +kernel
theorem dJ2_charAt_3b067_0 : decode cJ2_charAt_3b067 0 = .ok (.iload_n 1, 1) := by decide +kernel
theorem dJ2_charAt_3b067_1 : decode cJ2_charAt_3b067 1 = .ok (.aload_n 0, 1) := by decide +kernel
theorem dJ2_charAt_3b067_2 : decode cJ2_charAt_3b067 2 = .ok (.invokestatic 67, 3) := by decide +kernel
theorem dJ2_charAt_3b067_5 : decode cJ2_charAt_3b067 5 = .ok (.aload_n 0, 1) := by decide +kernel
theorem dJ2_charAt_3b067_6 : decode cJ2_charAt_3b067 6 = .ok (.iload_n 1, 1) := by decide +kernel
theorem dJ2_charAt_3b067_7 : decode cJ2_charAt_3b067 7 = .ok (.invokestatic 71, 3) := by decide +kernel
theorem dJ2_charAt_3b067_10 : decode cJ2_charAt_3b067 10 = .ok (.ireturn, 1) := by decide +kernel
theorem dJ2_checkIndex_2214a_0 : decode cJ2_checkIndex_2214a 0 = .ok (.iload_n 0, 1) := by decide +kernel
theorem dJ2_checkIndex_2214a_1 : decode cJ2_checkIndex_2214a 1 = .ok (.aload_n 1, 1) := by decide +kernel
theorem dJ2_checkIndex_2214a_2 : decode cJ2_checkIndex_2214a 2 = .ok (.invokestatic 48, 3) := by decide +kernel
theorem dJ2_checkIndex_2214a_5 : decode cJ2_checkIndex_2214a 5 = .ok (.invokestatic 414, 3) := by decide +kernel
theorem dJ2_checkIndex_2214a_8 : decode cJ2_checkIndex_2214a 8 = .ok (.return_, 1) := by decide +kernel
theorem dJ7_fill_53178_0 : decode cJ7_fill_53178 0 = .ok (.iconst 0, 1) := by decide +kernel
theorem dJ7_fill_53178_1 : decode cJ7_fill_53178 1 = .ok (.istore_n 2, 1) := by decide +kernel
theorem dJ7_fill_53178_2 : decode cJ7_fill_53178 2 = .ok (.aload_n 0, 1) := by decide +kernel
theorem dJ7_fill_53178_3 : decode cJ7_fill_53178 3 = .ok (.arraylength, 1) := by decide +kernel
theorem dJ7_fill_53178_4 : decode cJ7_fill_53178 4 = .ok (.istore_n 3, 1) := by decide +kernel
theorem dJ7_fill_53178_5 : decode cJ7_fill_53178 5 = .ok (.iload_n 2, 1) := by decide +kernel
theorem dJ7_fill_53178_6 : decode cJ7_fill_53178 6 = .ok (.iload_n 3, 1) := by decide +kernel
theorem dJ7_fill_53178_7 : decode cJ7_fill_53178 7 = .ok (.if_icmp .ge 13, 3) := by decide +kernel
theorem dJ7_fill_53178_10 : decode cJ7_fill_53178 10 = .ok (.aload_n 0, 1) := by decide +kernel
theorem dJ7_fill_53178_11 : decode cJ7_fill_53178 11 = .ok (.iload_n 2, 1) := by decide +kernel
theorem dJ7_fill_53178_12 : decode cJ7_fill_53178 12 = .ok (.iload_n 1, 1) := by decide +kernel
theorem dJ7_fill_53178_13 : decode cJ7_fill_53178 13 = .ok (.iastore, 1) := by decide +kernel
theorem dJ7_fill_53178_14 : decode cJ7_fill_53178 14 = .ok (.iinc 2 1, 3) := by decide +kernel
theorem dJ7_fill_53178_17 : decode cJ7_fill_53178 17 = .ok (.goto (-12), 3) := by decide +kernel
theorem dJ7_fill_53178_20 : decode cJ7_fill_53178 20 = .ok (.return_, 1) := by decide +kernel
theorem dJ3_checkIndex_8e157_0 : decode cJ3_checkIndex_8e157 0 = .ok (.iload_n 0, 1) := by decide +kernel
theorem dJ3_checkIndex_8e157_1 : decode cJ3_checkIndex_8e157 1 = .ok (.ifCond .lt 8, 3) := by decide +kernel
theorem dJ3_checkIndex_8e157_4 : decode cJ3_checkIndex_8e157 4 = .ok (.iload_n 0, 1) := by decide +kernel
theorem dJ3_checkIndex_8e157_5 : decode cJ3_checkIndex_8e157 5 = .ok (.iload_n 1, 1) := by decide +kernel
theorem dJ3_checkIndex_8e157_6 : decode cJ3_checkIndex_8e157 6 = .ok (.if_icmp .lt 10, 3) := by decide +kernel
theorem dJ3_checkIndex_8e157_9 : decode cJ3_checkIndex_8e157 9 = .ok (.aload_n 2, 1) := by decide +kernel
theorem dJ3_checkIndex_8e157_10 : decode cJ3_checkIndex_8e157 10 = .ok (.iload_n 0, 1) := by decide +kernel
theorem dJ3_checkIndex_8e157_11 : decode cJ3_checkIndex_8e157 11 = .ok (.iload_n 1, 1) := by decide +kernel
theorem dJ3_checkIndex_8e157_12 : decode cJ3_checkIndex_8e157 12 = .ok (.invokestatic 95, 3) := by decide +kernel
theorem dJ3_checkIndex_8e157_15 : decode cJ3_checkIndex_8e157 15 = .ok (.athrow, 1) := by decide +kernel
theorem dJ3_checkIndex_8e157_16 : decode cJ3_checkIndex_8e157 16 = .ok (.iload_n 0, 1) := by decide +kernel
theorem dJ3_checkIndex_8e157_17 : decode cJ3_checkIndex_8e157 17 = .ok (.ireturn, 1) := by decide +kernel
theorem dL_law_0 : decode cL_law 0 = .ok (.new 7, 3) := by decide +kernel
theorem dL_law_3 : decode cL_law 3 = .ok (.dup, 1) := by decide +kernel
theorem dL_law_4 : decode cL_law 4 = .ok (.invokespecial 9, 3) := by decide +kernel
theorem dL_law_7 : decode cL_law 7 = .ok (.astore_n 1, 1) := by decide +kernel
theorem dL_law_8 : decode cL_law 8 = .ok (.new 10, 3) := by decide +kernel
theorem dL_law_11 : decode cL_law 11 = .ok (.dup, 1) := by decide +kernel
theorem dL_law_12 : decode cL_law 12 = .ok (.invokespecial 12, 3) := by decide +kernel
theorem dL_law_15 : decode cL_law 15 = .ok (.astore_n 2, 1) := by decide +kernel
theorem dL_law_16 : decode cL_law 16 = .ok (.iconst 0, 1) := by decide +kernel
theorem dL_law_17 : decode cL_law 17 = .ok (.istore_n 3, 1) := by decide +kernel
theorem dL_law_18 : decode cL_law 18 = .ok (.iload_n 3, 1) := by decide +kernel
theorem dL_law_19 : decode cL_law 19 = .ok (.aload_n 0, 1) := by decide +kernel
theorem dL_law_20 : decode cL_law 20 = .ok (.arraylength, 1) := by decide +kernel
theorem dL_law_21 : decode cL_law 21 = .ok (.bipush 6, 2) := by decide +kernel
theorem dL_law_23 : decode cL_law 23 = .ok (.isub, 1) := by decide +kernel
theorem dL_law_24 : decode cL_law 24 = .ok (.if_icmp .gt 1126, 3) := by decide +kernel
theorem dL_law_27 : decode cL_law 27 = .ok (.aload_n 0, 1) := by decide +kernel
theorem dL_law_28 : decode cL_law 28 = .ok (.iload_n 3, 1) := by decide +kernel
theorem dL_law_29 : decode cL_law 29 = .ok (.iaload, 1) := by decide +kernel
theorem dL_law_30 : decode cL_law 30 = .ok (.bipush 63, 2) := by decide +kernel
theorem dL_law_32 : decode cL_law 32 = .ok (.iand, 1) := by decide +kernel
theorem dL_law_33 : decode cL_law 33 = .ok (.tableswitch 1111 0 34 #[155, 218, 241, 254, 267, 290, 303, 326, 349, 382, 415, 428, 441, 474, 507, 530, 553, 596, 629, 662, 705, 728, 751, 774, 807, 830, 864, 907, 930, 953, 976, 1009, 1032, 1065, 1088], 155) := by decide +kernel
theorem dL_law_188 : decode cL_law 188 = .ok (.aload_n 1, 1) := by decide +kernel
theorem dL_law_189 : decode cL_law 189 = .ok (.aload_n 0, 1) := by decide +kernel
theorem dL_law_190 : decode cL_law 190 = .ok (.iload_n 3, 1) := by decide +kernel
theorem dL_law_191 : decode cL_law 191 = .ok (.iconst 1, 1) := by decide +kernel
theorem dL_law_192 : decode cL_law 192 = .ok (.iadd, 1) := by decide +kernel
theorem dL_law_193 : decode cL_law 193 = .ok (.iaload, 1) := by decide +kernel
theorem dL_law_194 : decode cL_law 194 = .ok (.aload_n 0, 1) := by decide +kernel
theorem dL_law_195 : decode cL_law 195 = .ok (.iload_n 3, 1) := by decide +kernel
theorem dL_law_196 : decode cL_law 196 = .ok (.iconst 2, 1) := by decide +kernel
theorem dL_law_197 : decode cL_law 197 = .ok (.iadd, 1) := by decide +kernel
theorem dL_law_198 : decode cL_law 198 = .ok (.iaload, 1) := by decide +kernel
theorem dL_law_199 : decode cL_law 199 = .ok (.aload_n 0, 1) := by decide +kernel
theorem dL_law_200 : decode cL_law 200 = .ok (.iload_n 3, 1) := by decide +kernel
theorem dL_law_201 : decode cL_law 201 = .ok (.iconst 3, 1) := by decide +kernel
theorem dL_law_202 : decode cL_law 202 = .ok (.iadd, 1) := by decide +kernel
theorem dL_law_203 : decode cL_law 203 = .ok (.iaload, 1) := by decide +kernel
theorem dL_law_204 : decode cL_law 204 = .ok (.aload_n 0, 1) := by decide +kernel
theorem dL_law_205 : decode cL_law 205 = .ok (.iload_n 3, 1) := by decide +kernel
theorem dL_law_206 : decode cL_law 206 = .ok (.iconst 4, 1) := by decide +kernel
theorem dL_law_207 : decode cL_law 207 = .ok (.iadd, 1) := by decide +kernel
theorem dL_law_208 : decode cL_law 208 = .ok (.iaload, 1) := by decide +kernel
theorem dL_law_209 : decode cL_law 209 = .ok (.aload_n 0, 1) := by decide +kernel
theorem dL_law_210 : decode cL_law 210 = .ok (.iload_n 3, 1) := by decide +kernel
theorem dL_law_211 : decode cL_law 211 = .ok (.iconst 5, 1) := by decide +kernel
theorem dL_law_212 : decode cL_law 212 = .ok (.iadd, 1) := by decide +kernel
theorem dL_law_213 : decode cL_law 213 = .ok (.iaload, 1) := by decide +kernel
theorem dL_law_214 : decode cL_law 214 = .ok (.invokevirtual 13, 3) := by decide +kernel
theorem dL_law_217 : decode cL_law 217 = .ok (.aload_n 2, 1) := by decide +kernel
theorem dL_law_218 : decode cL_law 218 = .ok (.aload_n 0, 1) := by decide +kernel
theorem dL_law_219 : decode cL_law 219 = .ok (.iload_n 3, 1) := by decide +kernel
theorem dL_law_220 : decode cL_law 220 = .ok (.iconst 1, 1) := by decide +kernel
theorem dL_law_221 : decode cL_law 221 = .ok (.iadd, 1) := by decide +kernel
theorem dL_law_222 : decode cL_law 222 = .ok (.iaload, 1) := by decide +kernel
theorem dL_law_223 : decode cL_law 223 = .ok (.aload_n 0, 1) := by decide +kernel
theorem dL_law_224 : decode cL_law 224 = .ok (.iload_n 3, 1) := by decide +kernel
theorem dL_law_225 : decode cL_law 225 = .ok (.iconst 2, 1) := by decide +kernel
theorem dL_law_226 : decode cL_law 226 = .ok (.iadd, 1) := by decide +kernel
theorem dL_law_227 : decode cL_law 227 = .ok (.iaload, 1) := by decide +kernel
theorem dL_law_228 : decode cL_law 228 = .ok (.aload_n 0, 1) := by decide +kernel
theorem dL_law_229 : decode cL_law 229 = .ok (.iload_n 3, 1) := by decide +kernel
theorem dL_law_230 : decode cL_law 230 = .ok (.iconst 3, 1) := by decide +kernel
theorem dL_law_231 : decode cL_law 231 = .ok (.iadd, 1) := by decide +kernel
theorem dL_law_232 : decode cL_law 232 = .ok (.iaload, 1) := by decide +kernel
theorem dL_law_233 : decode cL_law 233 = .ok (.aload_n 0, 1) := by decide +kernel
theorem dL_law_234 : decode cL_law 234 = .ok (.iload_n 3, 1) := by decide +kernel
theorem dL_law_235 : decode cL_law 235 = .ok (.iconst 4, 1) := by decide +kernel
theorem dL_law_236 : decode cL_law 236 = .ok (.iadd, 1) := by decide +kernel
theorem dL_law_237 : decode cL_law 237 = .ok (.iaload, 1) := by decide +kernel
theorem dL_law_238 : decode cL_law 238 = .ok (.aload_n 0, 1) := by decide +kernel
theorem dL_law_239 : decode cL_law 239 = .ok (.iload_n 3, 1) := by decide +kernel
theorem dL_law_240 : decode cL_law 240 = .ok (.iconst 5, 1) := by decide +kernel
theorem dL_law_241 : decode cL_law 241 = .ok (.iadd, 1) := by decide +kernel
theorem dL_law_242 : decode cL_law 242 = .ok (.iaload, 1) := by decide +kernel
theorem dL_law_243 : decode cL_law 243 = .ok (.invokevirtual 17, 3) := by decide +kernel
theorem dL_law_246 : decode cL_law 246 = .ok (.if_icmp .eq 898, 3) := by decide +kernel
theorem dL_law_249 : decode cL_law 249 = .ok (.iconst 0, 1) := by decide +kernel
theorem dL_law_250 : decode cL_law 250 = .ok (.ireturn, 1) := by decide +kernel
theorem dL_law_251 : decode cL_law 251 = .ok (.aload_n 1, 1) := by decide +kernel
theorem dL_law_252 : decode cL_law 252 = .ok (.aload_n 0, 1) := by decide +kernel
theorem dL_law_253 : decode cL_law 253 = .ok (.iload_n 3, 1) := by decide +kernel
theorem dL_law_254 : decode cL_law 254 = .ok (.iconst 1, 1) := by decide +kernel
theorem dL_law_255 : decode cL_law 255 = .ok (.iadd, 1) := by decide +kernel
theorem dL_law_256 : decode cL_law 256 = .ok (.iaload, 1) := by decide +kernel
theorem dL_law_257 : decode cL_law 257 = .ok (.invokevirtual 18, 3) := by decide +kernel
theorem dL_law_260 : decode cL_law 260 = .ok (.aload_n 2, 1) := by decide +kernel
theorem dL_law_261 : decode cL_law 261 = .ok (.aload_n 0, 1) := by decide +kernel
theorem dL_law_262 : decode cL_law 262 = .ok (.iload_n 3, 1) := by decide +kernel
theorem dL_law_263 : decode cL_law 263 = .ok (.iconst 1, 1) := by decide +kernel
theorem dL_law_264 : decode cL_law 264 = .ok (.iadd, 1) := by decide +kernel
theorem dL_law_265 : decode cL_law 265 = .ok (.iaload, 1) := by decide +kernel
theorem dL_law_266 : decode cL_law 266 = .ok (.invokevirtual 22, 3) := by decide +kernel
theorem dL_law_269 : decode cL_law 269 = .ok (.if_icmp .eq 875, 3) := by decide +kernel
theorem dL_law_272 : decode cL_law 272 = .ok (.iconst 0, 1) := by decide +kernel
theorem dL_law_273 : decode cL_law 273 = .ok (.ireturn, 1) := by decide +kernel
theorem dL_law_274 : decode cL_law 274 = .ok (.aload_n 1, 1) := by decide +kernel
theorem dL_law_275 : decode cL_law 275 = .ok (.invokevirtual 23, 3) := by decide +kernel
theorem dL_law_278 : decode cL_law 278 = .ok (.aload_n 2, 1) := by decide +kernel
theorem dL_law_279 : decode cL_law 279 = .ok (.invokevirtual 27, 3) := by decide +kernel
theorem dL_law_282 : decode cL_law 282 = .ok (.if_icmp .eq 862, 3) := by decide +kernel
theorem dL_law_285 : decode cL_law 285 = .ok (.iconst 0, 1) := by decide +kernel
theorem dL_law_286 : decode cL_law 286 = .ok (.ireturn, 1) := by decide +kernel
theorem dL_law_287 : decode cL_law 287 = .ok (.aload_n 1, 1) := by decide +kernel
theorem dL_law_288 : decode cL_law 288 = .ok (.invokevirtual 28, 3) := by decide +kernel
theorem dL_law_291 : decode cL_law 291 = .ok (.aload_n 2, 1) := by decide +kernel
theorem dL_law_292 : decode cL_law 292 = .ok (.invokevirtual 31, 3) := by decide +kernel
theorem dL_law_295 : decode cL_law 295 = .ok (.if_icmp .eq 849, 3) := by decide +kernel
theorem dL_law_298 : decode cL_law 298 = .ok (.iconst 0, 1) := by decide +kernel
theorem dL_law_299 : decode cL_law 299 = .ok (.ireturn, 1) := by decide +kernel
theorem dL_law_300 : decode cL_law 300 = .ok (.aload_n 1, 1) := by decide +kernel
theorem dL_law_301 : decode cL_law 301 = .ok (.aload_n 0, 1) := by decide +kernel
theorem dL_law_302 : decode cL_law 302 = .ok (.iload_n 3, 1) := by decide +kernel
theorem dL_law_303 : decode cL_law 303 = .ok (.iconst 1, 1) := by decide +kernel
theorem dL_law_304 : decode cL_law 304 = .ok (.iadd, 1) := by decide +kernel
theorem dL_law_305 : decode cL_law 305 = .ok (.iaload, 1) := by decide +kernel
theorem dL_law_306 : decode cL_law 306 = .ok (.invokevirtual 32, 3) := by decide +kernel
theorem dL_law_309 : decode cL_law 309 = .ok (.aload_n 2, 1) := by decide +kernel
theorem dL_law_310 : decode cL_law 310 = .ok (.aload_n 0, 1) := by decide +kernel
theorem dL_law_311 : decode cL_law 311 = .ok (.iload_n 3, 1) := by decide +kernel
theorem dL_law_312 : decode cL_law 312 = .ok (.iconst 1, 1) := by decide +kernel
theorem dL_law_313 : decode cL_law 313 = .ok (.iadd, 1) := by decide +kernel
theorem dL_law_314 : decode cL_law 314 = .ok (.iaload, 1) := by decide +kernel
theorem dL_law_315 : decode cL_law 315 = .ok (.invokevirtual 36, 3) := by decide +kernel
theorem dL_law_318 : decode cL_law 318 = .ok (.if_icmp .eq 826, 3) := by decide +kernel
theorem dL_law_321 : decode cL_law 321 = .ok (.iconst 0, 1) := by decide +kernel
theorem dL_law_322 : decode cL_law 322 = .ok (.ireturn, 1) := by decide +kernel
theorem dL_law_323 : decode cL_law 323 = .ok (.aload_n 1, 1) := by decide +kernel
theorem dL_law_324 : decode cL_law 324 = .ok (.invokevirtual 37, 3) := by decide +kernel
theorem dL_law_327 : decode cL_law 327 = .ok (.aload_n 2, 1) := by decide +kernel
theorem dL_law_328 : decode cL_law 328 = .ok (.invokevirtual 40, 3) := by decide +kernel
theorem dL_law_331 : decode cL_law 331 = .ok (.if_icmp .eq 813, 3) := by decide +kernel
theorem dL_law_334 : decode cL_law 334 = .ok (.iconst 0, 1) := by decide +kernel
theorem dL_law_335 : decode cL_law 335 = .ok (.ireturn, 1) := by decide +kernel
theorem dL_law_336 : decode cL_law 336 = .ok (.aload_n 1, 1) := by decide +kernel
theorem dL_law_337 : decode cL_law 337 = .ok (.aload_n 0, 1) := by decide +kernel
theorem dL_law_338 : decode cL_law 338 = .ok (.iload_n 3, 1) := by decide +kernel
theorem dL_law_339 : decode cL_law 339 = .ok (.iconst 1, 1) := by decide +kernel
theorem dL_law_340 : decode cL_law 340 = .ok (.iadd, 1) := by decide +kernel
theorem dL_law_341 : decode cL_law 341 = .ok (.iaload, 1) := by decide +kernel
theorem dL_law_342 : decode cL_law 342 = .ok (.invokevirtual 41, 3) := by decide +kernel
theorem dL_law_345 : decode cL_law 345 = .ok (.aload_n 2, 1) := by decide +kernel
theorem dL_law_346 : decode cL_law 346 = .ok (.aload_n 0, 1) := by decide +kernel
theorem dL_law_347 : decode cL_law 347 = .ok (.iload_n 3, 1) := by decide +kernel
theorem dL_law_348 : decode cL_law 348 = .ok (.iconst 1, 1) := by decide +kernel
theorem dL_law_349 : decode cL_law 349 = .ok (.iadd, 1) := by decide +kernel
theorem dL_law_350 : decode cL_law 350 = .ok (.iaload, 1) := by decide +kernel
theorem dL_law_351 : decode cL_law 351 = .ok (.invokevirtual 44, 3) := by decide +kernel
theorem dL_law_354 : decode cL_law 354 = .ok (.if_icmp .eq 790, 3) := by decide +kernel
theorem dL_law_357 : decode cL_law 357 = .ok (.iconst 0, 1) := by decide +kernel
theorem dL_law_358 : decode cL_law 358 = .ok (.ireturn, 1) := by decide +kernel
theorem dL_law_359 : decode cL_law 359 = .ok (.aload_n 1, 1) := by decide +kernel
theorem dL_law_360 : decode cL_law 360 = .ok (.aload_n 0, 1) := by decide +kernel
theorem dL_law_361 : decode cL_law 361 = .ok (.iload_n 3, 1) := by decide +kernel
theorem dL_law_362 : decode cL_law 362 = .ok (.iconst 1, 1) := by decide +kernel
theorem dL_law_363 : decode cL_law 363 = .ok (.iadd, 1) := by decide +kernel
theorem dL_law_364 : decode cL_law 364 = .ok (.iaload, 1) := by decide +kernel
theorem dL_law_365 : decode cL_law 365 = .ok (.invokevirtual 45, 3) := by decide +kernel
theorem dL_law_368 : decode cL_law 368 = .ok (.aload_n 2, 1) := by decide +kernel
theorem dL_law_369 : decode cL_law 369 = .ok (.aload_n 0, 1) := by decide +kernel
theorem dL_law_370 : decode cL_law 370 = .ok (.iload_n 3, 1) := by decide +kernel
theorem dL_law_371 : decode cL_law 371 = .ok (.iconst 1, 1) := by decide +kernel
theorem dL_law_372 : decode cL_law 372 = .ok (.iadd, 1) := by decide +kernel
theorem dL_law_373 : decode cL_law 373 = .ok (.iaload, 1) := by decide +kernel
theorem dL_law_374 : decode cL_law 374 = .ok (.invokevirtual 48, 3) := by decide +kernel
theorem dL_law_377 : decode cL_law 377 = .ok (.if_icmp .eq 767, 3) := by decide +kernel
theorem dL_law_380 : decode cL_law 380 = .ok (.iconst 0, 1) := by decide +kernel
theorem dL_law_381 : decode cL_law 381 = .ok (.ireturn, 1) := by decide +kernel
theorem dL_law_382 : decode cL_law 382 = .ok (.aload_n 1, 1) := by decide +kernel
theorem dL_law_383 : decode cL_law 383 = .ok (.aload_n 0, 1) := by decide +kernel
theorem dL_law_384 : decode cL_law 384 = .ok (.iload_n 3, 1) := by decide +kernel
theorem dL_law_385 : decode cL_law 385 = .ok (.iconst 1, 1) := by decide +kernel
theorem dL_law_386 : decode cL_law 386 = .ok (.iadd, 1) := by decide +kernel
theorem dL_law_387 : decode cL_law 387 = .ok (.iaload, 1) := by decide +kernel
theorem dL_law_388 : decode cL_law 388 = .ok (.aload_n 0, 1) := by decide +kernel
theorem dL_law_389 : decode cL_law 389 = .ok (.iload_n 3, 1) := by decide +kernel
theorem dL_law_390 : decode cL_law 390 = .ok (.iconst 2, 1) := by decide +kernel
theorem dL_law_391 : decode cL_law 391 = .ok (.iadd, 1) := by decide +kernel
theorem dL_law_392 : decode cL_law 392 = .ok (.iaload, 1) := by decide +kernel
theorem dL_law_393 : decode cL_law 393 = .ok (.invokevirtual 49, 3) := by decide +kernel
theorem dL_law_396 : decode cL_law 396 = .ok (.aload_n 2, 1) := by decide +kernel
theorem dL_law_397 : decode cL_law 397 = .ok (.aload_n 0, 1) := by decide +kernel
theorem dL_law_398 : decode cL_law 398 = .ok (.iload_n 3, 1) := by decide +kernel
theorem dL_law_399 : decode cL_law 399 = .ok (.iconst 1, 1) := by decide +kernel
theorem dL_law_400 : decode cL_law 400 = .ok (.iadd, 1) := by decide +kernel
theorem dL_law_401 : decode cL_law 401 = .ok (.iaload, 1) := by decide +kernel
theorem dL_law_402 : decode cL_law 402 = .ok (.aload_n 0, 1) := by decide +kernel
theorem dL_law_403 : decode cL_law 403 = .ok (.iload_n 3, 1) := by decide +kernel
theorem dL_law_404 : decode cL_law 404 = .ok (.iconst 2, 1) := by decide +kernel
theorem dL_law_405 : decode cL_law 405 = .ok (.iadd, 1) := by decide +kernel
theorem dL_law_406 : decode cL_law 406 = .ok (.iaload, 1) := by decide +kernel
theorem dL_law_407 : decode cL_law 407 = .ok (.invokevirtual 53, 3) := by decide +kernel
theorem dL_law_410 : decode cL_law 410 = .ok (.if_icmp .eq 734, 3) := by decide +kernel
theorem dL_law_413 : decode cL_law 413 = .ok (.iconst 0, 1) := by decide +kernel
theorem dL_law_414 : decode cL_law 414 = .ok (.ireturn, 1) := by decide +kernel
theorem dL_law_415 : decode cL_law 415 = .ok (.aload_n 1, 1) := by decide +kernel
theorem dL_law_416 : decode cL_law 416 = .ok (.aload_n 0, 1) := by decide +kernel
theorem dL_law_417 : decode cL_law 417 = .ok (.iload_n 3, 1) := by decide +kernel
theorem dL_law_418 : decode cL_law 418 = .ok (.iconst 1, 1) := by decide +kernel
theorem dL_law_419 : decode cL_law 419 = .ok (.iadd, 1) := by decide +kernel
theorem dL_law_420 : decode cL_law 420 = .ok (.iaload, 1) := by decide +kernel
theorem dL_law_421 : decode cL_law 421 = .ok (.aload_n 0, 1) := by decide +kernel
theorem dL_law_422 : decode cL_law 422 = .ok (.iload_n 3, 1) := by decide +kernel
theorem dL_law_423 : decode cL_law 423 = .ok (.iconst 2, 1) := by decide +kernel
theorem dL_law_424 : decode cL_law 424 = .ok (.iadd, 1) := by decide +kernel
theorem dL_law_425 : decode cL_law 425 = .ok (.iaload, 1) := by decide +kernel
theorem dL_law_426 : decode cL_law 426 = .ok (.invokevirtual 54, 3) := by decide +kernel
theorem dL_law_429 : decode cL_law 429 = .ok (.aload_n 2, 1) := by decide +kernel
theorem dL_law_430 : decode cL_law 430 = .ok (.aload_n 0, 1) := by decide +kernel
theorem dL_law_431 : decode cL_law 431 = .ok (.iload_n 3, 1) := by decide +kernel
theorem dL_law_432 : decode cL_law 432 = .ok (.iconst 1, 1) := by decide +kernel
theorem dL_law_433 : decode cL_law 433 = .ok (.iadd, 1) := by decide +kernel
theorem dL_law_434 : decode cL_law 434 = .ok (.iaload, 1) := by decide +kernel
theorem dL_law_435 : decode cL_law 435 = .ok (.aload_n 0, 1) := by decide +kernel
theorem dL_law_436 : decode cL_law 436 = .ok (.iload_n 3, 1) := by decide +kernel
theorem dL_law_437 : decode cL_law 437 = .ok (.iconst 2, 1) := by decide +kernel
theorem dL_law_438 : decode cL_law 438 = .ok (.iadd, 1) := by decide +kernel
theorem dL_law_439 : decode cL_law 439 = .ok (.iaload, 1) := by decide +kernel
theorem dL_law_440 : decode cL_law 440 = .ok (.invokevirtual 57, 3) := by decide +kernel
theorem dL_law_443 : decode cL_law 443 = .ok (.if_icmp .eq 701, 3) := by decide +kernel
theorem dL_law_446 : decode cL_law 446 = .ok (.iconst 0, 1) := by decide +kernel
theorem dL_law_447 : decode cL_law 447 = .ok (.ireturn, 1) := by decide +kernel
theorem dL_law_448 : decode cL_law 448 = .ok (.aload_n 1, 1) := by decide +kernel
theorem dL_law_449 : decode cL_law 449 = .ok (.invokevirtual 58, 3) := by decide +kernel
theorem dL_law_452 : decode cL_law 452 = .ok (.aload_n 2, 1) := by decide +kernel
theorem dL_law_453 : decode cL_law 453 = .ok (.invokevirtual 61, 3) := by decide +kernel
theorem dL_law_456 : decode cL_law 456 = .ok (.if_icmp .eq 688, 3) := by decide +kernel
theorem dL_law_459 : decode cL_law 459 = .ok (.iconst 0, 1) := by decide +kernel
theorem dL_law_460 : decode cL_law 460 = .ok (.ireturn, 1) := by decide +kernel
theorem dL_law_461 : decode cL_law 461 = .ok (.aload_n 1, 1) := by decide +kernel
theorem dL_law_462 : decode cL_law 462 = .ok (.invokevirtual 62, 3) := by decide +kernel
theorem dL_law_465 : decode cL_law 465 = .ok (.aload_n 2, 1) := by decide +kernel
theorem dL_law_466 : decode cL_law 466 = .ok (.invokevirtual 66, 3) := by decide +kernel
theorem dL_law_469 : decode cL_law 469 = .ok (.if_icmp .eq 675, 3) := by decide +kernel
theorem dL_law_472 : decode cL_law 472 = .ok (.iconst 0, 1) := by decide +kernel
theorem dL_law_473 : decode cL_law 473 = .ok (.ireturn, 1) := by decide +kernel
theorem dL_law_474 : decode cL_law 474 = .ok (.aload_n 1, 1) := by decide +kernel
theorem dL_law_475 : decode cL_law 475 = .ok (.aload_n 0, 1) := by decide +kernel
theorem dL_law_476 : decode cL_law 476 = .ok (.iload_n 3, 1) := by decide +kernel
theorem dL_law_477 : decode cL_law 477 = .ok (.iconst 1, 1) := by decide +kernel
theorem dL_law_478 : decode cL_law 478 = .ok (.iadd, 1) := by decide +kernel
theorem dL_law_479 : decode cL_law 479 = .ok (.iaload, 1) := by decide +kernel
theorem dL_law_480 : decode cL_law 480 = .ok (.aload_n 0, 1) := by decide +kernel
theorem dL_law_481 : decode cL_law 481 = .ok (.iload_n 3, 1) := by decide +kernel
theorem dL_law_482 : decode cL_law 482 = .ok (.iconst 2, 1) := by decide +kernel
theorem dL_law_483 : decode cL_law 483 = .ok (.iadd, 1) := by decide +kernel
theorem dL_law_484 : decode cL_law 484 = .ok (.iaload, 1) := by decide +kernel
theorem dL_law_485 : decode cL_law 485 = .ok (.invokevirtual 67, 3) := by decide +kernel
theorem dL_law_488 : decode cL_law 488 = .ok (.aload_n 2, 1) := by decide +kernel
theorem dL_law_489 : decode cL_law 489 = .ok (.aload_n 0, 1) := by decide +kernel
theorem dL_law_490 : decode cL_law 490 = .ok (.iload_n 3, 1) := by decide +kernel
theorem dL_law_491 : decode cL_law 491 = .ok (.iconst 1, 1) := by decide +kernel
theorem dL_law_492 : decode cL_law 492 = .ok (.iadd, 1) := by decide +kernel
theorem dL_law_493 : decode cL_law 493 = .ok (.iaload, 1) := by decide +kernel
theorem dL_law_494 : decode cL_law 494 = .ok (.aload_n 0, 1) := by decide +kernel
theorem dL_law_495 : decode cL_law 495 = .ok (.iload_n 3, 1) := by decide +kernel
theorem dL_law_496 : decode cL_law 496 = .ok (.iconst 2, 1) := by decide +kernel
theorem dL_law_497 : decode cL_law 497 = .ok (.iadd, 1) := by decide +kernel
theorem dL_law_498 : decode cL_law 498 = .ok (.iaload, 1) := by decide +kernel
theorem dL_law_499 : decode cL_law 499 = .ok (.invokevirtual 71, 3) := by decide +kernel
theorem dL_law_502 : decode cL_law 502 = .ok (.if_icmp .eq 642, 3) := by decide +kernel
theorem dL_law_505 : decode cL_law 505 = .ok (.iconst 0, 1) := by decide +kernel
theorem dL_law_506 : decode cL_law 506 = .ok (.ireturn, 1) := by decide +kernel
theorem dL_law_507 : decode cL_law 507 = .ok (.aload_n 1, 1) := by decide +kernel
theorem dL_law_508 : decode cL_law 508 = .ok (.aload_n 0, 1) := by decide +kernel
theorem dL_law_509 : decode cL_law 509 = .ok (.iload_n 3, 1) := by decide +kernel
theorem dL_law_510 : decode cL_law 510 = .ok (.iconst 1, 1) := by decide +kernel
theorem dL_law_511 : decode cL_law 511 = .ok (.iadd, 1) := by decide +kernel
theorem dL_law_512 : decode cL_law 512 = .ok (.iaload, 1) := by decide +kernel
theorem dL_law_513 : decode cL_law 513 = .ok (.aload_n 0, 1) := by decide +kernel
theorem dL_law_514 : decode cL_law 514 = .ok (.iload_n 3, 1) := by decide +kernel
theorem dL_law_515 : decode cL_law 515 = .ok (.iconst 2, 1) := by decide +kernel
theorem dL_law_516 : decode cL_law 516 = .ok (.iadd, 1) := by decide +kernel
theorem dL_law_517 : decode cL_law 517 = .ok (.iaload, 1) := by decide +kernel
theorem dL_law_518 : decode cL_law 518 = .ok (.invokevirtual 72, 3) := by decide +kernel
theorem dL_law_521 : decode cL_law 521 = .ok (.aload_n 2, 1) := by decide +kernel
theorem dL_law_522 : decode cL_law 522 = .ok (.aload_n 0, 1) := by decide +kernel
theorem dL_law_523 : decode cL_law 523 = .ok (.iload_n 3, 1) := by decide +kernel
theorem dL_law_524 : decode cL_law 524 = .ok (.iconst 1, 1) := by decide +kernel
theorem dL_law_525 : decode cL_law 525 = .ok (.iadd, 1) := by decide +kernel
theorem dL_law_526 : decode cL_law 526 = .ok (.iaload, 1) := by decide +kernel
theorem dL_law_527 : decode cL_law 527 = .ok (.aload_n 0, 1) := by decide +kernel
theorem dL_law_528 : decode cL_law 528 = .ok (.iload_n 3, 1) := by decide +kernel
theorem dL_law_529 : decode cL_law 529 = .ok (.iconst 2, 1) := by decide +kernel
theorem dL_law_530 : decode cL_law 530 = .ok (.iadd, 1) := by decide +kernel
theorem dL_law_531 : decode cL_law 531 = .ok (.iaload, 1) := by decide +kernel
theorem dL_law_532 : decode cL_law 532 = .ok (.invokevirtual 75, 3) := by decide +kernel
theorem dL_law_535 : decode cL_law 535 = .ok (.if_icmp .eq 609, 3) := by decide +kernel
theorem dL_law_538 : decode cL_law 538 = .ok (.iconst 0, 1) := by decide +kernel
theorem dL_law_539 : decode cL_law 539 = .ok (.ireturn, 1) := by decide +kernel
theorem dL_law_540 : decode cL_law 540 = .ok (.aload_n 1, 1) := by decide +kernel
theorem dL_law_541 : decode cL_law 541 = .ok (.aload_n 0, 1) := by decide +kernel
theorem dL_law_542 : decode cL_law 542 = .ok (.iload_n 3, 1) := by decide +kernel
theorem dL_law_543 : decode cL_law 543 = .ok (.iconst 1, 1) := by decide +kernel
theorem dL_law_544 : decode cL_law 544 = .ok (.iadd, 1) := by decide +kernel
theorem dL_law_545 : decode cL_law 545 = .ok (.iaload, 1) := by decide +kernel
theorem dL_law_546 : decode cL_law 546 = .ok (.invokevirtual 76, 3) := by decide +kernel
theorem dL_law_549 : decode cL_law 549 = .ok (.aload_n 2, 1) := by decide +kernel
theorem dL_law_550 : decode cL_law 550 = .ok (.aload_n 0, 1) := by decide +kernel
theorem dL_law_551 : decode cL_law 551 = .ok (.iload_n 3, 1) := by decide +kernel
theorem dL_law_552 : decode cL_law 552 = .ok (.iconst 1, 1) := by decide +kernel
theorem dL_law_553 : decode cL_law 553 = .ok (.iadd, 1) := by decide +kernel
theorem dL_law_554 : decode cL_law 554 = .ok (.iaload, 1) := by decide +kernel
theorem dL_law_555 : decode cL_law 555 = .ok (.invokevirtual 79, 3) := by decide +kernel
theorem dL_law_558 : decode cL_law 558 = .ok (.if_icmp .eq 586, 3) := by decide +kernel
theorem dL_law_561 : decode cL_law 561 = .ok (.iconst 0, 1) := by decide +kernel
theorem dL_law_562 : decode cL_law 562 = .ok (.ireturn, 1) := by decide +kernel
theorem dL_law_563 : decode cL_law 563 = .ok (.aload_n 1, 1) := by decide +kernel
theorem dL_law_564 : decode cL_law 564 = .ok (.aload_n 0, 1) := by decide +kernel
theorem dL_law_565 : decode cL_law 565 = .ok (.iload_n 3, 1) := by decide +kernel
theorem dL_law_566 : decode cL_law 566 = .ok (.iconst 1, 1) := by decide +kernel
theorem dL_law_567 : decode cL_law 567 = .ok (.iadd, 1) := by decide +kernel
theorem dL_law_568 : decode cL_law 568 = .ok (.iaload, 1) := by decide +kernel
theorem dL_law_569 : decode cL_law 569 = .ok (.invokevirtual 80, 3) := by decide +kernel
theorem dL_law_572 : decode cL_law 572 = .ok (.aload_n 2, 1) := by decide +kernel
theorem dL_law_573 : decode cL_law 573 = .ok (.aload_n 0, 1) := by decide +kernel
theorem dL_law_574 : decode cL_law 574 = .ok (.iload_n 3, 1) := by decide +kernel
theorem dL_law_575 : decode cL_law 575 = .ok (.iconst 1, 1) := by decide +kernel
theorem dL_law_576 : decode cL_law 576 = .ok (.iadd, 1) := by decide +kernel
theorem dL_law_577 : decode cL_law 577 = .ok (.iaload, 1) := by decide +kernel
theorem dL_law_578 : decode cL_law 578 = .ok (.invokevirtual 83, 3) := by decide +kernel
theorem dL_law_581 : decode cL_law 581 = .ok (.if_icmp .eq 563, 3) := by decide +kernel
theorem dL_law_584 : decode cL_law 584 = .ok (.iconst 0, 1) := by decide +kernel
theorem dL_law_585 : decode cL_law 585 = .ok (.ireturn, 1) := by decide +kernel
theorem dL_law_586 : decode cL_law 586 = .ok (.aload_n 1, 1) := by decide +kernel
theorem dL_law_587 : decode cL_law 587 = .ok (.aload_n 0, 1) := by decide +kernel
theorem dL_law_588 : decode cL_law 588 = .ok (.iload_n 3, 1) := by decide +kernel
theorem dL_law_589 : decode cL_law 589 = .ok (.iconst 1, 1) := by decide +kernel
theorem dL_law_590 : decode cL_law 590 = .ok (.iadd, 1) := by decide +kernel
theorem dL_law_591 : decode cL_law 591 = .ok (.iaload, 1) := by decide +kernel
theorem dL_law_592 : decode cL_law 592 = .ok (.aload_n 0, 1) := by decide +kernel
theorem dL_law_593 : decode cL_law 593 = .ok (.iload_n 3, 1) := by decide +kernel
theorem dL_law_594 : decode cL_law 594 = .ok (.iconst 2, 1) := by decide +kernel
theorem dL_law_595 : decode cL_law 595 = .ok (.iadd, 1) := by decide +kernel
theorem dL_law_596 : decode cL_law 596 = .ok (.iaload, 1) := by decide +kernel
theorem dL_law_597 : decode cL_law 597 = .ok (.aload_n 0, 1) := by decide +kernel
theorem dL_law_598 : decode cL_law 598 = .ok (.iload_n 3, 1) := by decide +kernel
theorem dL_law_599 : decode cL_law 599 = .ok (.iconst 3, 1) := by decide +kernel
theorem dL_law_600 : decode cL_law 600 = .ok (.iadd, 1) := by decide +kernel
theorem dL_law_601 : decode cL_law 601 = .ok (.iaload, 1) := by decide +kernel
theorem dL_law_602 : decode cL_law 602 = .ok (.invokevirtual 84, 3) := by decide +kernel
theorem dL_law_605 : decode cL_law 605 = .ok (.aload_n 2, 1) := by decide +kernel
theorem dL_law_606 : decode cL_law 606 = .ok (.aload_n 0, 1) := by decide +kernel
theorem dL_law_607 : decode cL_law 607 = .ok (.iload_n 3, 1) := by decide +kernel
theorem dL_law_608 : decode cL_law 608 = .ok (.iconst 1, 1) := by decide +kernel
theorem dL_law_609 : decode cL_law 609 = .ok (.iadd, 1) := by decide +kernel
theorem dL_law_610 : decode cL_law 610 = .ok (.iaload, 1) := by decide +kernel
theorem dL_law_611 : decode cL_law 611 = .ok (.aload_n 0, 1) := by decide +kernel
theorem dL_law_612 : decode cL_law 612 = .ok (.iload_n 3, 1) := by decide +kernel
theorem dL_law_613 : decode cL_law 613 = .ok (.iconst 2, 1) := by decide +kernel
theorem dL_law_614 : decode cL_law 614 = .ok (.iadd, 1) := by decide +kernel
theorem dL_law_615 : decode cL_law 615 = .ok (.iaload, 1) := by decide +kernel
theorem dL_law_616 : decode cL_law 616 = .ok (.aload_n 0, 1) := by decide +kernel
theorem dL_law_617 : decode cL_law 617 = .ok (.iload_n 3, 1) := by decide +kernel
theorem dL_law_618 : decode cL_law 618 = .ok (.iconst 3, 1) := by decide +kernel
theorem dL_law_619 : decode cL_law 619 = .ok (.iadd, 1) := by decide +kernel
theorem dL_law_620 : decode cL_law 620 = .ok (.iaload, 1) := by decide +kernel
theorem dL_law_621 : decode cL_law 621 = .ok (.invokevirtual 88, 3) := by decide +kernel
theorem dL_law_624 : decode cL_law 624 = .ok (.if_icmp .eq 520, 3) := by decide +kernel
theorem dL_law_627 : decode cL_law 627 = .ok (.iconst 0, 1) := by decide +kernel
theorem dL_law_628 : decode cL_law 628 = .ok (.ireturn, 1) := by decide +kernel
theorem dL_law_629 : decode cL_law 629 = .ok (.aload_n 1, 1) := by decide +kernel
theorem dL_law_630 : decode cL_law 630 = .ok (.aload_n 0, 1) := by decide +kernel
theorem dL_law_631 : decode cL_law 631 = .ok (.iload_n 3, 1) := by decide +kernel
theorem dL_law_632 : decode cL_law 632 = .ok (.iconst 1, 1) := by decide +kernel
theorem dL_law_633 : decode cL_law 633 = .ok (.iadd, 1) := by decide +kernel
theorem dL_law_634 : decode cL_law 634 = .ok (.iaload, 1) := by decide +kernel
theorem dL_law_635 : decode cL_law 635 = .ok (.aload_n 0, 1) := by decide +kernel
theorem dL_law_636 : decode cL_law 636 = .ok (.iload_n 3, 1) := by decide +kernel
theorem dL_law_637 : decode cL_law 637 = .ok (.iconst 2, 1) := by decide +kernel
theorem dL_law_638 : decode cL_law 638 = .ok (.iadd, 1) := by decide +kernel
theorem dL_law_639 : decode cL_law 639 = .ok (.iaload, 1) := by decide +kernel
theorem dL_law_640 : decode cL_law 640 = .ok (.invokevirtual 89, 3) := by decide +kernel
theorem dL_law_643 : decode cL_law 643 = .ok (.aload_n 2, 1) := by decide +kernel
theorem dL_law_644 : decode cL_law 644 = .ok (.aload_n 0, 1) := by decide +kernel
theorem dL_law_645 : decode cL_law 645 = .ok (.iload_n 3, 1) := by decide +kernel
theorem dL_law_646 : decode cL_law 646 = .ok (.iconst 1, 1) := by decide +kernel
theorem dL_law_647 : decode cL_law 647 = .ok (.iadd, 1) := by decide +kernel
theorem dL_law_648 : decode cL_law 648 = .ok (.iaload, 1) := by decide +kernel
theorem dL_law_649 : decode cL_law 649 = .ok (.aload_n 0, 1) := by decide +kernel
theorem dL_law_650 : decode cL_law 650 = .ok (.iload_n 3, 1) := by decide +kernel
theorem dL_law_651 : decode cL_law 651 = .ok (.iconst 2, 1) := by decide +kernel
theorem dL_law_652 : decode cL_law 652 = .ok (.iadd, 1) := by decide +kernel
theorem dL_law_653 : decode cL_law 653 = .ok (.iaload, 1) := by decide +kernel
theorem dL_law_654 : decode cL_law 654 = .ok (.invokevirtual 92, 3) := by decide +kernel
theorem dL_law_657 : decode cL_law 657 = .ok (.if_icmp .eq 487, 3) := by decide +kernel
theorem dL_law_660 : decode cL_law 660 = .ok (.iconst 0, 1) := by decide +kernel
theorem dL_law_661 : decode cL_law 661 = .ok (.ireturn, 1) := by decide +kernel
theorem dL_law_662 : decode cL_law 662 = .ok (.aload_n 1, 1) := by decide +kernel
theorem dL_law_663 : decode cL_law 663 = .ok (.aload_n 0, 1) := by decide +kernel
theorem dL_law_664 : decode cL_law 664 = .ok (.iload_n 3, 1) := by decide +kernel
theorem dL_law_665 : decode cL_law 665 = .ok (.iconst 1, 1) := by decide +kernel
theorem dL_law_666 : decode cL_law 666 = .ok (.iadd, 1) := by decide +kernel
theorem dL_law_667 : decode cL_law 667 = .ok (.iaload, 1) := by decide +kernel
theorem dL_law_668 : decode cL_law 668 = .ok (.aload_n 0, 1) := by decide +kernel
theorem dL_law_669 : decode cL_law 669 = .ok (.iload_n 3, 1) := by decide +kernel
theorem dL_law_670 : decode cL_law 670 = .ok (.iconst 2, 1) := by decide +kernel
theorem dL_law_671 : decode cL_law 671 = .ok (.iadd, 1) := by decide +kernel
theorem dL_law_672 : decode cL_law 672 = .ok (.iaload, 1) := by decide +kernel
theorem dL_law_673 : decode cL_law 673 = .ok (.invokevirtual 93, 3) := by decide +kernel
theorem dL_law_676 : decode cL_law 676 = .ok (.aload_n 2, 1) := by decide +kernel
theorem dL_law_677 : decode cL_law 677 = .ok (.aload_n 0, 1) := by decide +kernel
theorem dL_law_678 : decode cL_law 678 = .ok (.iload_n 3, 1) := by decide +kernel
theorem dL_law_679 : decode cL_law 679 = .ok (.iconst 1, 1) := by decide +kernel
theorem dL_law_680 : decode cL_law 680 = .ok (.iadd, 1) := by decide +kernel
theorem dL_law_681 : decode cL_law 681 = .ok (.iaload, 1) := by decide +kernel
theorem dL_law_682 : decode cL_law 682 = .ok (.aload_n 0, 1) := by decide +kernel
theorem dL_law_683 : decode cL_law 683 = .ok (.iload_n 3, 1) := by decide +kernel
theorem dL_law_684 : decode cL_law 684 = .ok (.iconst 2, 1) := by decide +kernel
theorem dL_law_685 : decode cL_law 685 = .ok (.iadd, 1) := by decide +kernel
theorem dL_law_686 : decode cL_law 686 = .ok (.iaload, 1) := by decide +kernel
theorem dL_law_687 : decode cL_law 687 = .ok (.invokevirtual 96, 3) := by decide +kernel
theorem dL_law_690 : decode cL_law 690 = .ok (.if_icmp .eq 454, 3) := by decide +kernel
theorem dL_law_693 : decode cL_law 693 = .ok (.iconst 0, 1) := by decide +kernel
theorem dL_law_694 : decode cL_law 694 = .ok (.ireturn, 1) := by decide +kernel
theorem dL_law_695 : decode cL_law 695 = .ok (.aload_n 1, 1) := by decide +kernel
theorem dL_law_696 : decode cL_law 696 = .ok (.aload_n 0, 1) := by decide +kernel
theorem dL_law_697 : decode cL_law 697 = .ok (.iload_n 3, 1) := by decide +kernel
theorem dL_law_698 : decode cL_law 698 = .ok (.iconst 1, 1) := by decide +kernel
theorem dL_law_699 : decode cL_law 699 = .ok (.iadd, 1) := by decide +kernel
theorem dL_law_700 : decode cL_law 700 = .ok (.iaload, 1) := by decide +kernel
theorem dL_law_701 : decode cL_law 701 = .ok (.aload_n 0, 1) := by decide +kernel
theorem dL_law_702 : decode cL_law 702 = .ok (.iload_n 3, 1) := by decide +kernel
theorem dL_law_703 : decode cL_law 703 = .ok (.iconst 2, 1) := by decide +kernel
theorem dL_law_704 : decode cL_law 704 = .ok (.iadd, 1) := by decide +kernel
theorem dL_law_705 : decode cL_law 705 = .ok (.iaload, 1) := by decide +kernel
theorem dL_law_706 : decode cL_law 706 = .ok (.aload_n 0, 1) := by decide +kernel
theorem dL_law_707 : decode cL_law 707 = .ok (.iload_n 3, 1) := by decide +kernel
theorem dL_law_708 : decode cL_law 708 = .ok (.iconst 3, 1) := by decide +kernel
theorem dL_law_709 : decode cL_law 709 = .ok (.iadd, 1) := by decide +kernel
theorem dL_law_710 : decode cL_law 710 = .ok (.iaload, 1) := by decide +kernel
theorem dL_law_711 : decode cL_law 711 = .ok (.invokevirtual 97, 3) := by decide +kernel
theorem dL_law_714 : decode cL_law 714 = .ok (.aload_n 2, 1) := by decide +kernel
theorem dL_law_715 : decode cL_law 715 = .ok (.aload_n 0, 1) := by decide +kernel
theorem dL_law_716 : decode cL_law 716 = .ok (.iload_n 3, 1) := by decide +kernel
theorem dL_law_717 : decode cL_law 717 = .ok (.iconst 1, 1) := by decide +kernel
theorem dL_law_718 : decode cL_law 718 = .ok (.iadd, 1) := by decide +kernel
theorem dL_law_719 : decode cL_law 719 = .ok (.iaload, 1) := by decide +kernel
theorem dL_law_720 : decode cL_law 720 = .ok (.aload_n 0, 1) := by decide +kernel
theorem dL_law_721 : decode cL_law 721 = .ok (.iload_n 3, 1) := by decide +kernel
theorem dL_law_722 : decode cL_law 722 = .ok (.iconst 2, 1) := by decide +kernel
theorem dL_law_723 : decode cL_law 723 = .ok (.iadd, 1) := by decide +kernel
theorem dL_law_724 : decode cL_law 724 = .ok (.iaload, 1) := by decide +kernel
theorem dL_law_725 : decode cL_law 725 = .ok (.aload_n 0, 1) := by decide +kernel
theorem dL_law_726 : decode cL_law 726 = .ok (.iload_n 3, 1) := by decide +kernel
theorem dL_law_727 : decode cL_law 727 = .ok (.iconst 3, 1) := by decide +kernel
theorem dL_law_728 : decode cL_law 728 = .ok (.iadd, 1) := by decide +kernel
theorem dL_law_729 : decode cL_law 729 = .ok (.iaload, 1) := by decide +kernel
theorem dL_law_730 : decode cL_law 730 = .ok (.invokevirtual 100, 3) := by decide +kernel
theorem dL_law_733 : decode cL_law 733 = .ok (.if_icmp .eq 411, 3) := by decide +kernel
theorem dL_law_736 : decode cL_law 736 = .ok (.iconst 0, 1) := by decide +kernel
theorem dL_law_737 : decode cL_law 737 = .ok (.ireturn, 1) := by decide +kernel
theorem dL_law_738 : decode cL_law 738 = .ok (.aload_n 1, 1) := by decide +kernel
theorem dL_law_739 : decode cL_law 739 = .ok (.aload_n 0, 1) := by decide +kernel
theorem dL_law_740 : decode cL_law 740 = .ok (.iload_n 3, 1) := by decide +kernel
theorem dL_law_741 : decode cL_law 741 = .ok (.iconst 1, 1) := by decide +kernel
theorem dL_law_742 : decode cL_law 742 = .ok (.iadd, 1) := by decide +kernel
theorem dL_law_743 : decode cL_law 743 = .ok (.iaload, 1) := by decide +kernel
theorem dL_law_744 : decode cL_law 744 = .ok (.invokevirtual 101, 3) := by decide +kernel
theorem dL_law_747 : decode cL_law 747 = .ok (.aload_n 2, 1) := by decide +kernel
theorem dL_law_748 : decode cL_law 748 = .ok (.aload_n 0, 1) := by decide +kernel
theorem dL_law_749 : decode cL_law 749 = .ok (.iload_n 3, 1) := by decide +kernel
theorem dL_law_750 : decode cL_law 750 = .ok (.iconst 1, 1) := by decide +kernel
theorem dL_law_751 : decode cL_law 751 = .ok (.iadd, 1) := by decide +kernel
theorem dL_law_752 : decode cL_law 752 = .ok (.iaload, 1) := by decide +kernel
theorem dL_law_753 : decode cL_law 753 = .ok (.invokevirtual 104, 3) := by decide +kernel
theorem dL_law_756 : decode cL_law 756 = .ok (.if_icmp .eq 388, 3) := by decide +kernel
theorem dL_law_759 : decode cL_law 759 = .ok (.iconst 0, 1) := by decide +kernel
theorem dL_law_760 : decode cL_law 760 = .ok (.ireturn, 1) := by decide +kernel
theorem dL_law_761 : decode cL_law 761 = .ok (.aload_n 1, 1) := by decide +kernel
theorem dL_law_762 : decode cL_law 762 = .ok (.aload_n 0, 1) := by decide +kernel
theorem dL_law_763 : decode cL_law 763 = .ok (.iload_n 3, 1) := by decide +kernel
theorem dL_law_764 : decode cL_law 764 = .ok (.iconst 1, 1) := by decide +kernel
theorem dL_law_765 : decode cL_law 765 = .ok (.iadd, 1) := by decide +kernel
theorem dL_law_766 : decode cL_law 766 = .ok (.iaload, 1) := by decide +kernel
theorem dL_law_767 : decode cL_law 767 = .ok (.invokevirtual 105, 3) := by decide +kernel
theorem dL_law_770 : decode cL_law 770 = .ok (.aload_n 2, 1) := by decide +kernel
theorem dL_law_771 : decode cL_law 771 = .ok (.aload_n 0, 1) := by decide +kernel
theorem dL_law_772 : decode cL_law 772 = .ok (.iload_n 3, 1) := by decide +kernel
theorem dL_law_773 : decode cL_law 773 = .ok (.iconst 1, 1) := by decide +kernel
theorem dL_law_774 : decode cL_law 774 = .ok (.iadd, 1) := by decide +kernel
theorem dL_law_775 : decode cL_law 775 = .ok (.iaload, 1) := by decide +kernel
theorem dL_law_776 : decode cL_law 776 = .ok (.invokevirtual 108, 3) := by decide +kernel
theorem dL_law_779 : decode cL_law 779 = .ok (.if_icmp .eq 365, 3) := by decide +kernel
theorem dL_law_782 : decode cL_law 782 = .ok (.iconst 0, 1) := by decide +kernel
theorem dL_law_783 : decode cL_law 783 = .ok (.ireturn, 1) := by decide +kernel
theorem dL_law_784 : decode cL_law 784 = .ok (.aload_n 1, 1) := by decide +kernel
theorem dL_law_785 : decode cL_law 785 = .ok (.aload_n 0, 1) := by decide +kernel
theorem dL_law_786 : decode cL_law 786 = .ok (.iload_n 3, 1) := by decide +kernel
theorem dL_law_787 : decode cL_law 787 = .ok (.iconst 1, 1) := by decide +kernel
theorem dL_law_788 : decode cL_law 788 = .ok (.iadd, 1) := by decide +kernel
theorem dL_law_789 : decode cL_law 789 = .ok (.iaload, 1) := by decide +kernel
theorem dL_law_790 : decode cL_law 790 = .ok (.invokevirtual 109, 3) := by decide +kernel
theorem dL_law_793 : decode cL_law 793 = .ok (.aload_n 2, 1) := by decide +kernel
theorem dL_law_794 : decode cL_law 794 = .ok (.aload_n 0, 1) := by decide +kernel
theorem dL_law_795 : decode cL_law 795 = .ok (.iload_n 3, 1) := by decide +kernel
theorem dL_law_796 : decode cL_law 796 = .ok (.iconst 1, 1) := by decide +kernel
theorem dL_law_797 : decode cL_law 797 = .ok (.iadd, 1) := by decide +kernel
theorem dL_law_798 : decode cL_law 798 = .ok (.iaload, 1) := by decide +kernel
theorem dL_law_799 : decode cL_law 799 = .ok (.invokevirtual 112, 3) := by decide +kernel
theorem dL_law_802 : decode cL_law 802 = .ok (.if_icmp .eq 342, 3) := by decide +kernel
theorem dL_law_805 : decode cL_law 805 = .ok (.iconst 0, 1) := by decide +kernel
theorem dL_law_806 : decode cL_law 806 = .ok (.ireturn, 1) := by decide +kernel
theorem dL_law_807 : decode cL_law 807 = .ok (.aload_n 1, 1) := by decide +kernel
theorem dL_law_808 : decode cL_law 808 = .ok (.aload_n 0, 1) := by decide +kernel
theorem dL_law_809 : decode cL_law 809 = .ok (.iload_n 3, 1) := by decide +kernel
theorem dL_law_810 : decode cL_law 810 = .ok (.iconst 1, 1) := by decide +kernel
theorem dL_law_811 : decode cL_law 811 = .ok (.iadd, 1) := by decide +kernel
theorem dL_law_812 : decode cL_law 812 = .ok (.iaload, 1) := by decide +kernel
theorem dL_law_813 : decode cL_law 813 = .ok (.aload_n 0, 1) := by decide +kernel
theorem dL_law_814 : decode cL_law 814 = .ok (.iload_n 3, 1) := by decide +kernel
theorem dL_law_815 : decode cL_law 815 = .ok (.iconst 2, 1) := by decide +kernel
theorem dL_law_816 : decode cL_law 816 = .ok (.iadd, 1) := by decide +kernel
theorem dL_law_817 : decode cL_law 817 = .ok (.iaload, 1) := by decide +kernel
theorem dL_law_818 : decode cL_law 818 = .ok (.invokevirtual 113, 3) := by decide +kernel
theorem dL_law_821 : decode cL_law 821 = .ok (.aload_n 2, 1) := by decide +kernel
theorem dL_law_822 : decode cL_law 822 = .ok (.aload_n 0, 1) := by decide +kernel
theorem dL_law_823 : decode cL_law 823 = .ok (.iload_n 3, 1) := by decide +kernel
theorem dL_law_824 : decode cL_law 824 = .ok (.iconst 1, 1) := by decide +kernel
theorem dL_law_825 : decode cL_law 825 = .ok (.iadd, 1) := by decide +kernel
theorem dL_law_826 : decode cL_law 826 = .ok (.iaload, 1) := by decide +kernel
theorem dL_law_827 : decode cL_law 827 = .ok (.aload_n 0, 1) := by decide +kernel
theorem dL_law_828 : decode cL_law 828 = .ok (.iload_n 3, 1) := by decide +kernel
theorem dL_law_829 : decode cL_law 829 = .ok (.iconst 2, 1) := by decide +kernel
theorem dL_law_830 : decode cL_law 830 = .ok (.iadd, 1) := by decide +kernel
theorem dL_law_831 : decode cL_law 831 = .ok (.iaload, 1) := by decide +kernel
theorem dL_law_832 : decode cL_law 832 = .ok (.invokevirtual 116, 3) := by decide +kernel
theorem dL_law_835 : decode cL_law 835 = .ok (.if_icmp .eq 309, 3) := by decide +kernel
theorem dL_law_838 : decode cL_law 838 = .ok (.iconst 0, 1) := by decide +kernel
theorem dL_law_839 : decode cL_law 839 = .ok (.ireturn, 1) := by decide +kernel
theorem dL_law_840 : decode cL_law 840 = .ok (.aload_n 1, 1) := by decide +kernel
theorem dL_law_841 : decode cL_law 841 = .ok (.aload_n 0, 1) := by decide +kernel
theorem dL_law_842 : decode cL_law 842 = .ok (.iload_n 3, 1) := by decide +kernel
theorem dL_law_843 : decode cL_law 843 = .ok (.iconst 1, 1) := by decide +kernel
theorem dL_law_844 : decode cL_law 844 = .ok (.iadd, 1) := by decide +kernel
theorem dL_law_845 : decode cL_law 845 = .ok (.iaload, 1) := by decide +kernel
theorem dL_law_846 : decode cL_law 846 = .ok (.invokevirtual 117, 3) := by decide +kernel
theorem dL_law_849 : decode cL_law 849 = .ok (.aload_n 2, 1) := by decide +kernel
theorem dL_law_850 : decode cL_law 850 = .ok (.aload_n 0, 1) := by decide +kernel
theorem dL_law_851 : decode cL_law 851 = .ok (.iload_n 3, 1) := by decide +kernel
theorem dL_law_852 : decode cL_law 852 = .ok (.iconst 1, 1) := by decide +kernel
theorem dL_law_853 : decode cL_law 853 = .ok (.iadd, 1) := by decide +kernel
theorem dL_law_854 : decode cL_law 854 = .ok (.iaload, 1) := by decide +kernel
theorem dL_law_855 : decode cL_law 855 = .ok (.invokevirtual 120, 3) := by decide +kernel
theorem dL_law_858 : decode cL_law 858 = .ok (.if_icmp .eq 286, 3) := by decide +kernel
theorem dL_law_861 : decode cL_law 861 = .ok (.iconst 0, 1) := by decide +kernel
theorem dL_law_862 : decode cL_law 862 = .ok (.ireturn, 1) := by decide +kernel
theorem dL_law_863 : decode cL_law 863 = .ok (.aload_n 1, 1) := by decide +kernel
theorem dL_law_864 : decode cL_law 864 = .ok (.aload_n 0, 1) := by decide +kernel
theorem dL_law_865 : decode cL_law 865 = .ok (.iload_n 3, 1) := by decide +kernel
theorem dL_law_866 : decode cL_law 866 = .ok (.iconst 1, 1) := by decide +kernel
theorem dL_law_867 : decode cL_law 867 = .ok (.iadd, 1) := by decide +kernel
theorem dL_law_868 : decode cL_law 868 = .ok (.iaload, 1) := by decide +kernel
theorem dL_law_869 : decode cL_law 869 = .ok (.aload_n 0, 1) := by decide +kernel
theorem dL_law_870 : decode cL_law 870 = .ok (.iload_n 3, 1) := by decide +kernel
theorem dL_law_871 : decode cL_law 871 = .ok (.iconst 2, 1) := by decide +kernel
theorem dL_law_872 : decode cL_law 872 = .ok (.iadd, 1) := by decide +kernel
theorem dL_law_873 : decode cL_law 873 = .ok (.iaload, 1) := by decide +kernel
theorem dL_law_874 : decode cL_law 874 = .ok (.invokevirtual 121, 3) := by decide +kernel
theorem dL_law_877 : decode cL_law 877 = .ok (.aload_n 2, 1) := by decide +kernel
theorem dL_law_878 : decode cL_law 878 = .ok (.aload_n 0, 1) := by decide +kernel
theorem dL_law_879 : decode cL_law 879 = .ok (.iload_n 3, 1) := by decide +kernel
theorem dL_law_880 : decode cL_law 880 = .ok (.iconst 1, 1) := by decide +kernel
theorem dL_law_881 : decode cL_law 881 = .ok (.iadd, 1) := by decide +kernel
theorem dL_law_882 : decode cL_law 882 = .ok (.iaload, 1) := by decide +kernel
theorem dL_law_883 : decode cL_law 883 = .ok (.aload_n 0, 1) := by decide +kernel
theorem dL_law_884 : decode cL_law 884 = .ok (.iload_n 3, 1) := by decide +kernel
theorem dL_law_885 : decode cL_law 885 = .ok (.iconst 2, 1) := by decide +kernel
theorem dL_law_886 : decode cL_law 886 = .ok (.iadd, 1) := by decide +kernel
theorem dL_law_887 : decode cL_law 887 = .ok (.iaload, 1) := by decide +kernel
theorem dL_law_888 : decode cL_law 888 = .ok (.invokevirtual 125, 3) := by decide +kernel
theorem dL_law_891 : decode cL_law 891 = .ok (.lcmp, 1) := by decide +kernel
theorem dL_law_892 : decode cL_law 892 = .ok (.ifCond .eq 252, 3) := by decide +kernel
theorem dL_law_895 : decode cL_law 895 = .ok (.iconst 0, 1) := by decide +kernel
theorem dL_law_896 : decode cL_law 896 = .ok (.ireturn, 1) := by decide +kernel
theorem dL_law_897 : decode cL_law 897 = .ok (.aload_n 1, 1) := by decide +kernel
theorem dL_law_898 : decode cL_law 898 = .ok (.aload_n 0, 1) := by decide +kernel
theorem dL_law_899 : decode cL_law 899 = .ok (.iload_n 3, 1) := by decide +kernel
theorem dL_law_900 : decode cL_law 900 = .ok (.iconst 1, 1) := by decide +kernel
theorem dL_law_901 : decode cL_law 901 = .ok (.iadd, 1) := by decide +kernel
theorem dL_law_902 : decode cL_law 902 = .ok (.iaload, 1) := by decide +kernel
theorem dL_law_903 : decode cL_law 903 = .ok (.aload_n 0, 1) := by decide +kernel
theorem dL_law_904 : decode cL_law 904 = .ok (.iload_n 3, 1) := by decide +kernel
theorem dL_law_905 : decode cL_law 905 = .ok (.iconst 2, 1) := by decide +kernel
theorem dL_law_906 : decode cL_law 906 = .ok (.iadd, 1) := by decide +kernel
theorem dL_law_907 : decode cL_law 907 = .ok (.iaload, 1) := by decide +kernel
theorem dL_law_908 : decode cL_law 908 = .ok (.aload_n 0, 1) := by decide +kernel
theorem dL_law_909 : decode cL_law 909 = .ok (.iload_n 3, 1) := by decide +kernel
theorem dL_law_910 : decode cL_law 910 = .ok (.iconst 3, 1) := by decide +kernel
theorem dL_law_911 : decode cL_law 911 = .ok (.iadd, 1) := by decide +kernel
theorem dL_law_912 : decode cL_law 912 = .ok (.iaload, 1) := by decide +kernel
theorem dL_law_913 : decode cL_law 913 = .ok (.invokevirtual 126, 3) := by decide +kernel
theorem dL_law_916 : decode cL_law 916 = .ok (.aload_n 2, 1) := by decide +kernel
theorem dL_law_917 : decode cL_law 917 = .ok (.aload_n 0, 1) := by decide +kernel
theorem dL_law_918 : decode cL_law 918 = .ok (.iload_n 3, 1) := by decide +kernel
theorem dL_law_919 : decode cL_law 919 = .ok (.iconst 1, 1) := by decide +kernel
theorem dL_law_920 : decode cL_law 920 = .ok (.iadd, 1) := by decide +kernel
theorem dL_law_921 : decode cL_law 921 = .ok (.iaload, 1) := by decide +kernel
theorem dL_law_922 : decode cL_law 922 = .ok (.aload_n 0, 1) := by decide +kernel
theorem dL_law_923 : decode cL_law 923 = .ok (.iload_n 3, 1) := by decide +kernel
theorem dL_law_924 : decode cL_law 924 = .ok (.iconst 2, 1) := by decide +kernel
theorem dL_law_925 : decode cL_law 925 = .ok (.iadd, 1) := by decide +kernel
theorem dL_law_926 : decode cL_law 926 = .ok (.iaload, 1) := by decide +kernel
theorem dL_law_927 : decode cL_law 927 = .ok (.aload_n 0, 1) := by decide +kernel
theorem dL_law_928 : decode cL_law 928 = .ok (.iload_n 3, 1) := by decide +kernel
theorem dL_law_929 : decode cL_law 929 = .ok (.iconst 3, 1) := by decide +kernel
theorem dL_law_930 : decode cL_law 930 = .ok (.iadd, 1) := by decide +kernel
theorem dL_law_931 : decode cL_law 931 = .ok (.iaload, 1) := by decide +kernel
theorem dL_law_932 : decode cL_law 932 = .ok (.invokevirtual 129, 3) := by decide +kernel
theorem dL_law_935 : decode cL_law 935 = .ok (.if_icmp .eq 209, 3) := by decide +kernel
theorem dL_law_938 : decode cL_law 938 = .ok (.iconst 0, 1) := by decide +kernel
theorem dL_law_939 : decode cL_law 939 = .ok (.ireturn, 1) := by decide +kernel
theorem dL_law_940 : decode cL_law 940 = .ok (.aload_n 1, 1) := by decide +kernel
theorem dL_law_941 : decode cL_law 941 = .ok (.aload_n 0, 1) := by decide +kernel
theorem dL_law_942 : decode cL_law 942 = .ok (.iload_n 3, 1) := by decide +kernel
theorem dL_law_943 : decode cL_law 943 = .ok (.iconst 1, 1) := by decide +kernel
theorem dL_law_944 : decode cL_law 944 = .ok (.iadd, 1) := by decide +kernel
theorem dL_law_945 : decode cL_law 945 = .ok (.iaload, 1) := by decide +kernel
theorem dL_law_946 : decode cL_law 946 = .ok (.invokevirtual 130, 3) := by decide +kernel
theorem dL_law_949 : decode cL_law 949 = .ok (.aload_n 2, 1) := by decide +kernel
theorem dL_law_950 : decode cL_law 950 = .ok (.aload_n 0, 1) := by decide +kernel
theorem dL_law_951 : decode cL_law 951 = .ok (.iload_n 3, 1) := by decide +kernel
theorem dL_law_952 : decode cL_law 952 = .ok (.iconst 1, 1) := by decide +kernel
theorem dL_law_953 : decode cL_law 953 = .ok (.iadd, 1) := by decide +kernel
theorem dL_law_954 : decode cL_law 954 = .ok (.iaload, 1) := by decide +kernel
theorem dL_law_955 : decode cL_law 955 = .ok (.invokevirtual 133, 3) := by decide +kernel
theorem dL_law_958 : decode cL_law 958 = .ok (.if_icmp .eq 186, 3) := by decide +kernel
theorem dL_law_961 : decode cL_law 961 = .ok (.iconst 0, 1) := by decide +kernel
theorem dL_law_962 : decode cL_law 962 = .ok (.ireturn, 1) := by decide +kernel
theorem dL_law_963 : decode cL_law 963 = .ok (.aload_n 1, 1) := by decide +kernel
theorem dL_law_964 : decode cL_law 964 = .ok (.aload_n 0, 1) := by decide +kernel
theorem dL_law_965 : decode cL_law 965 = .ok (.iload_n 3, 1) := by decide +kernel
theorem dL_law_966 : decode cL_law 966 = .ok (.iconst 1, 1) := by decide +kernel
theorem dL_law_967 : decode cL_law 967 = .ok (.iadd, 1) := by decide +kernel
theorem dL_law_968 : decode cL_law 968 = .ok (.iaload, 1) := by decide +kernel
theorem dL_law_969 : decode cL_law 969 = .ok (.invokevirtual 134, 3) := by decide +kernel
theorem dL_law_972 : decode cL_law 972 = .ok (.aload_n 2, 1) := by decide +kernel
theorem dL_law_973 : decode cL_law 973 = .ok (.aload_n 0, 1) := by decide +kernel
theorem dL_law_974 : decode cL_law 974 = .ok (.iload_n 3, 1) := by decide +kernel
theorem dL_law_975 : decode cL_law 975 = .ok (.iconst 1, 1) := by decide +kernel
theorem dL_law_976 : decode cL_law 976 = .ok (.iadd, 1) := by decide +kernel
theorem dL_law_977 : decode cL_law 977 = .ok (.iaload, 1) := by decide +kernel
theorem dL_law_978 : decode cL_law 978 = .ok (.invokevirtual 137, 3) := by decide +kernel
theorem dL_law_981 : decode cL_law 981 = .ok (.if_icmp .eq 163, 3) := by decide +kernel
theorem dL_law_984 : decode cL_law 984 = .ok (.iconst 0, 1) := by decide +kernel
theorem dL_law_985 : decode cL_law 985 = .ok (.ireturn, 1) := by decide +kernel
theorem dL_law_986 : decode cL_law 986 = .ok (.aload_n 1, 1) := by decide +kernel
theorem dL_law_987 : decode cL_law 987 = .ok (.aload_n 0, 1) := by decide +kernel
theorem dL_law_988 : decode cL_law 988 = .ok (.iload_n 3, 1) := by decide +kernel
theorem dL_law_989 : decode cL_law 989 = .ok (.iconst 1, 1) := by decide +kernel
theorem dL_law_990 : decode cL_law 990 = .ok (.iadd, 1) := by decide +kernel
theorem dL_law_991 : decode cL_law 991 = .ok (.iaload, 1) := by decide +kernel
theorem dL_law_992 : decode cL_law 992 = .ok (.invokevirtual 138, 3) := by decide +kernel
theorem dL_law_995 : decode cL_law 995 = .ok (.aload_n 2, 1) := by decide +kernel
theorem dL_law_996 : decode cL_law 996 = .ok (.aload_n 0, 1) := by decide +kernel
theorem dL_law_997 : decode cL_law 997 = .ok (.iload_n 3, 1) := by decide +kernel
theorem dL_law_998 : decode cL_law 998 = .ok (.iconst 1, 1) := by decide +kernel
theorem dL_law_999 : decode cL_law 999 = .ok (.iadd, 1) := by decide +kernel
theorem dL_law_1000 : decode cL_law 1000 = .ok (.iaload, 1) := by decide +kernel
theorem dL_law_1001 : decode cL_law 1001 = .ok (.invokevirtual 141, 3) := by decide +kernel
theorem dL_law_1004 : decode cL_law 1004 = .ok (.if_icmp .eq 140, 3) := by decide +kernel
theorem dL_law_1007 : decode cL_law 1007 = .ok (.iconst 0, 1) := by decide +kernel
theorem dL_law_1008 : decode cL_law 1008 = .ok (.ireturn, 1) := by decide +kernel
theorem dL_law_1009 : decode cL_law 1009 = .ok (.aload_n 1, 1) := by decide +kernel
theorem dL_law_1010 : decode cL_law 1010 = .ok (.aload_n 0, 1) := by decide +kernel
theorem dL_law_1011 : decode cL_law 1011 = .ok (.iload_n 3, 1) := by decide +kernel
theorem dL_law_1012 : decode cL_law 1012 = .ok (.iconst 1, 1) := by decide +kernel
theorem dL_law_1013 : decode cL_law 1013 = .ok (.iadd, 1) := by decide +kernel
theorem dL_law_1014 : decode cL_law 1014 = .ok (.iaload, 1) := by decide +kernel
theorem dL_law_1015 : decode cL_law 1015 = .ok (.aload_n 0, 1) := by decide +kernel
theorem dL_law_1016 : decode cL_law 1016 = .ok (.iload_n 3, 1) := by decide +kernel
theorem dL_law_1017 : decode cL_law 1017 = .ok (.iconst 2, 1) := by decide +kernel
theorem dL_law_1018 : decode cL_law 1018 = .ok (.iadd, 1) := by decide +kernel
theorem dL_law_1019 : decode cL_law 1019 = .ok (.iaload, 1) := by decide +kernel
theorem dL_law_1020 : decode cL_law 1020 = .ok (.invokevirtual 142, 3) := by decide +kernel
theorem dL_law_1023 : decode cL_law 1023 = .ok (.aload_n 2, 1) := by decide +kernel
theorem dL_law_1024 : decode cL_law 1024 = .ok (.aload_n 0, 1) := by decide +kernel
theorem dL_law_1025 : decode cL_law 1025 = .ok (.iload_n 3, 1) := by decide +kernel
theorem dL_law_1026 : decode cL_law 1026 = .ok (.iconst 1, 1) := by decide +kernel
theorem dL_law_1027 : decode cL_law 1027 = .ok (.iadd, 1) := by decide +kernel
theorem dL_law_1028 : decode cL_law 1028 = .ok (.iaload, 1) := by decide +kernel
theorem dL_law_1029 : decode cL_law 1029 = .ok (.aload_n 0, 1) := by decide +kernel
theorem dL_law_1030 : decode cL_law 1030 = .ok (.iload_n 3, 1) := by decide +kernel
theorem dL_law_1031 : decode cL_law 1031 = .ok (.iconst 2, 1) := by decide +kernel
theorem dL_law_1032 : decode cL_law 1032 = .ok (.iadd, 1) := by decide +kernel
theorem dL_law_1033 : decode cL_law 1033 = .ok (.iaload, 1) := by decide +kernel
theorem dL_law_1034 : decode cL_law 1034 = .ok (.invokevirtual 145, 3) := by decide +kernel
theorem dL_law_1037 : decode cL_law 1037 = .ok (.if_icmp .eq 107, 3) := by decide +kernel
theorem dL_law_1040 : decode cL_law 1040 = .ok (.iconst 0, 1) := by decide +kernel
theorem dL_law_1041 : decode cL_law 1041 = .ok (.ireturn, 1) := by decide +kernel
theorem dL_law_1042 : decode cL_law 1042 = .ok (.aload_n 1, 1) := by decide +kernel
theorem dL_law_1043 : decode cL_law 1043 = .ok (.aload_n 0, 1) := by decide +kernel
theorem dL_law_1044 : decode cL_law 1044 = .ok (.iload_n 3, 1) := by decide +kernel
theorem dL_law_1045 : decode cL_law 1045 = .ok (.iconst 1, 1) := by decide +kernel
theorem dL_law_1046 : decode cL_law 1046 = .ok (.iadd, 1) := by decide +kernel
theorem dL_law_1047 : decode cL_law 1047 = .ok (.iaload, 1) := by decide +kernel
theorem dL_law_1048 : decode cL_law 1048 = .ok (.invokevirtual 146, 3) := by decide +kernel
theorem dL_law_1051 : decode cL_law 1051 = .ok (.aload_n 2, 1) := by decide +kernel
theorem dL_law_1052 : decode cL_law 1052 = .ok (.aload_n 0, 1) := by decide +kernel
theorem dL_law_1053 : decode cL_law 1053 = .ok (.iload_n 3, 1) := by decide +kernel
theorem dL_law_1054 : decode cL_law 1054 = .ok (.iconst 1, 1) := by decide +kernel
theorem dL_law_1055 : decode cL_law 1055 = .ok (.iadd, 1) := by decide +kernel
theorem dL_law_1056 : decode cL_law 1056 = .ok (.iaload, 1) := by decide +kernel
theorem dL_law_1057 : decode cL_law 1057 = .ok (.invokevirtual 149, 3) := by decide +kernel
theorem dL_law_1060 : decode cL_law 1060 = .ok (.if_icmp .eq 84, 3) := by decide +kernel
theorem dL_law_1063 : decode cL_law 1063 = .ok (.iconst 0, 1) := by decide +kernel
theorem dL_law_1064 : decode cL_law 1064 = .ok (.ireturn, 1) := by decide +kernel
theorem dL_law_1065 : decode cL_law 1065 = .ok (.aload_n 1, 1) := by decide +kernel
theorem dL_law_1066 : decode cL_law 1066 = .ok (.aload_n 0, 1) := by decide +kernel
theorem dL_law_1067 : decode cL_law 1067 = .ok (.iload_n 3, 1) := by decide +kernel
theorem dL_law_1068 : decode cL_law 1068 = .ok (.iconst 1, 1) := by decide +kernel
theorem dL_law_1069 : decode cL_law 1069 = .ok (.iadd, 1) := by decide +kernel
theorem dL_law_1070 : decode cL_law 1070 = .ok (.iaload, 1) := by decide +kernel
theorem dL_law_1071 : decode cL_law 1071 = .ok (.aload_n 0, 1) := by decide +kernel
theorem dL_law_1072 : decode cL_law 1072 = .ok (.iload_n 3, 1) := by decide +kernel
theorem dL_law_1073 : decode cL_law 1073 = .ok (.iconst 2, 1) := by decide +kernel
theorem dL_law_1074 : decode cL_law 1074 = .ok (.iadd, 1) := by decide +kernel
theorem dL_law_1075 : decode cL_law 1075 = .ok (.iaload, 1) := by decide +kernel
theorem dL_law_1076 : decode cL_law 1076 = .ok (.invokevirtual 150, 3) := by decide +kernel
theorem dL_law_1079 : decode cL_law 1079 = .ok (.aload_n 2, 1) := by decide +kernel
theorem dL_law_1080 : decode cL_law 1080 = .ok (.aload_n 0, 1) := by decide +kernel
theorem dL_law_1081 : decode cL_law 1081 = .ok (.iload_n 3, 1) := by decide +kernel
theorem dL_law_1082 : decode cL_law 1082 = .ok (.iconst 1, 1) := by decide +kernel
theorem dL_law_1083 : decode cL_law 1083 = .ok (.iadd, 1) := by decide +kernel
theorem dL_law_1084 : decode cL_law 1084 = .ok (.iaload, 1) := by decide +kernel
theorem dL_law_1085 : decode cL_law 1085 = .ok (.aload_n 0, 1) := by decide +kernel
theorem dL_law_1086 : decode cL_law 1086 = .ok (.iload_n 3, 1) := by decide +kernel
theorem dL_law_1087 : decode cL_law 1087 = .ok (.iconst 2, 1) := by decide +kernel
theorem dL_law_1088 : decode cL_law 1088 = .ok (.iadd, 1) := by decide +kernel
theorem dL_law_1089 : decode cL_law 1089 = .ok (.iaload, 1) := by decide +kernel
theorem dL_law_1090 : decode cL_law 1090 = .ok (.invokevirtual 153, 3) := by decide +kernel
theorem dL_law_1093 : decode cL_law 1093 = .ok (.if_icmp .eq 51, 3) := by decide +kernel
theorem dL_law_1096 : decode cL_law 1096 = .ok (.iconst 0, 1) := by decide +kernel
theorem dL_law_1097 : decode cL_law 1097 = .ok (.ireturn, 1) := by decide +kernel
theorem dL_law_1098 : decode cL_law 1098 = .ok (.aload_n 1, 1) := by decide +kernel
theorem dL_law_1099 : decode cL_law 1099 = .ok (.aload_n 0, 1) := by decide +kernel
theorem dL_law_1100 : decode cL_law 1100 = .ok (.iload_n 3, 1) := by decide +kernel
theorem dL_law_1101 : decode cL_law 1101 = .ok (.iconst 1, 1) := by decide +kernel
theorem dL_law_1102 : decode cL_law 1102 = .ok (.iadd, 1) := by decide +kernel
theorem dL_law_1103 : decode cL_law 1103 = .ok (.iaload, 1) := by decide +kernel
theorem dL_law_1104 : decode cL_law 1104 = .ok (.invokevirtual 154, 3) := by decide +kernel
theorem dL_law_1107 : decode cL_law 1107 = .ok (.aload_n 2, 1) := by decide +kernel
theorem dL_law_1108 : decode cL_law 1108 = .ok (.aload_n 0, 1) := by decide +kernel
theorem dL_law_1109 : decode cL_law 1109 = .ok (.iload_n 3, 1) := by decide +kernel
theorem dL_law_1110 : decode cL_law 1110 = .ok (.iconst 1, 1) := by decide +kernel
theorem dL_law_1111 : decode cL_law 1111 = .ok (.iadd, 1) := by decide +kernel
theorem dL_law_1112 : decode cL_law 1112 = .ok (.iaload, 1) := by decide +kernel
theorem dL_law_1113 : decode cL_law 1113 = .ok (.invokevirtual 157, 3) := by decide +kernel
theorem dL_law_1116 : decode cL_law 1116 = .ok (.if_icmp .eq 28, 3) := by decide +kernel
theorem dL_law_1119 : decode cL_law 1119 = .ok (.iconst 0, 1) := by decide +kernel
theorem dL_law_1120 : decode cL_law 1120 = .ok (.ireturn, 1) := by decide +kernel
theorem dL_law_1121 : decode cL_law 1121 = .ok (.aload_n 1, 1) := by decide +kernel
theorem dL_law_1122 : decode cL_law 1122 = .ok (.aload_n 0, 1) := by decide +kernel
theorem dL_law_1123 : decode cL_law 1123 = .ok (.iload_n 3, 1) := by decide +kernel
theorem dL_law_1124 : decode cL_law 1124 = .ok (.iconst 1, 1) := by decide +kernel
theorem dL_law_1125 : decode cL_law 1125 = .ok (.iadd, 1) := by decide +kernel
theorem dL_law_1126 : decode cL_law 1126 = .ok (.iaload, 1) := by decide +kernel
theorem dL_law_1127 : decode cL_law 1127 = .ok (.invokevirtual 158, 3) := by decide +kernel
theorem dL_law_1130 : decode cL_law 1130 = .ok (.aload_n 2, 1) := by decide +kernel
theorem dL_law_1131 : decode cL_law 1131 = .ok (.aload_n 0, 1) := by decide +kernel
theorem dL_law_1132 : decode cL_law 1132 = .ok (.iload_n 3, 1) := by decide +kernel
theorem dL_law_1133 : decode cL_law 1133 = .ok (.iconst 1, 1) := by decide +kernel
theorem dL_law_1134 : decode cL_law 1134 = .ok (.iadd, 1) := by decide +kernel
theorem dL_law_1135 : decode cL_law 1135 = .ok (.iaload, 1) := by decide +kernel
theorem dL_law_1136 : decode cL_law 1136 = .ok (.invokevirtual 161, 3) := by decide +kernel
theorem dL_law_1139 : decode cL_law 1139 = .ok (.if_icmp .eq 5, 3) := by decide +kernel
theorem dL_law_1142 : decode cL_law 1142 = .ok (.iconst 0, 1) := by decide +kernel
theorem dL_law_1143 : decode cL_law 1143 = .ok (.ireturn, 1) := by decide +kernel
theorem dL_law_1144 : decode cL_law 1144 = .ok (.iinc 3 6, 3) := by decide +kernel
theorem dL_law_1147 : decode cL_law 1147 = .ok (.goto (-1129), 3) := by decide +kernel
theorem dL_law_1150 : decode cL_law 1150 = .ok (.iconst 1, 1) := by decide +kernel
theorem dL_law_1151 : decode cL_law 1151 = .ok (.ireturn, 1) := by decide +kernel
