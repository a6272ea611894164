theorem dX12_day_80 : decode cX12_day 80 = .ok (.getfield 32, 3) := by decide +kernel
theorem dX12_day_83 : decode cX12_day 83 = .ok (.bipush 120, 2) := by decide +kernel
theorem dX12_day_85 : decode cX12_day 85 = .ok (.bipush 30, 2) := by decide +kernel
theorem dX12_day_87 : decode cX12_day 87 = .ok (.aload_n 0, 1) := by decide +kernel
theorem dX12_day_88 : decode cX12_day 88 = .ok (.getfield 45, 3) := by decide +kernel
theorem dX12_day_91 : decode cX12_day 91 = .ok (.iconst 3, 1) := by decide +kernel
theorem dX12_day_92 : decode cX12_day 92 = .ok (.iload_n 2, 1) := by decide +kernel
theorem dX12_day_93 : decode cX12_day 93 = .ok (.imul, 1) := by decide +kernel
theorem dX12_day_94 : decode cX12_day 94 = .ok (.iaload, 1) := by decide +kernel
theorem dX12_day_95 : decode cX12_day 95 = .ok (.imul, 1) := by decide +kernel
theorem dX12_day_96 : decode cX12_day 96 = .ok (.iadd, 1) := by decide +kernel
theorem dX12_day_97 : decode cX12_day 97 = .ok (.aload_n 0, 1) := by decide +kernel
theorem dX12_day_98 : decode cX12_day 98 = .ok (.getfield 45, 3) := by decide +kernel
theorem dX12_day_101 : decode cX12_day 101 = .ok (.iconst 3, 1) := by decide +kernel
theorem dX12_day_102 : decode cX12_day 102 = .ok (.iload_n 2, 1) := by decide +kernel
theorem dX12_day_103 : decode cX12_day 103 = .ok (.imul, 1) := by decide +kernel
theorem dX12_day_104 : decode cX12_day 104 = .ok (.iconst 1, 1) := by decide +kernel
theorem dX12_day_105 : decode cX12_day 105 = .ok (.iadd, 1) := by decide +kernel
theorem dX12_day_106 : decode cX12_day 106 = .ok (.iaload, 1) := by decide +kernel
theorem dX12_day_107 : decode cX12_day 107 = .ok (.iadd, 1) := by decide +kernel
theorem dX12_day_108 : decode cX12_day 108 = .ok (.aload_n 0, 1) := by decide +kernel
theorem dX12_day_109 : decode cX12_day 109 = .ok (.getfield 45, 3) := by decide +kernel
theorem dX12_day_112 : decode cX12_day 112 = .ok (.iconst 3, 1) := by decide +kernel
theorem dX12_day_113 : decode cX12_day 113 = .ok (.iload_n 2, 1) := by decide +kernel
theorem dX12_day_114 : decode cX12_day 114 = .ok (.imul, 1) := by decide +kernel
theorem dX12_day_115 : decode cX12_day 115 = .ok (.iconst 2, 1) := by decide +kernel
theorem dX12_day_116 : decode cX12_day 116 = .ok (.iadd, 1) := by decide +kernel
theorem dX12_day_117 : decode cX12_day 117 = .ok (.iaload, 1) := by decide +kernel
theorem dX12_day_118 : decode cX12_day 118 = .ok (.iastore, 1) := by decide +kernel
theorem dX12_day_119 : decode cX12_day 119 = .ok (.iinc 2 1, 3) := by decide +kernel
theorem dX12_day_122 : decode cX12_day 122 = .ok (.goto (-51), 3) := by decide +kernel
theorem dX12_day_125 : decode cX12_day 125 = .ok (.aload_n 0, 1) := by decide +kernel
theorem dX12_day_126 : decode cX12_day 126 = .ok (.getfield 275, 3) := by decide +kernel
theorem dX12_day_129 : decode cX12_day 129 = .ok (.ireturn, 1) := by decide +kernel
theorem dX12_fault_0 : decode cX12_fault 0 = .ok (.iload_n 1, 1) := by decide +kernel
theorem dX12_fault_1 : decode cX12_fault 1 = .ok (.ifCond .ne 10, 3) := by decide +kernel
theorem dX12_fault_4 : decode cX12_fault 4 = .ok (.aload_n 0, 1) := by decide +kernel
theorem dX12_fault_5 : decode cX12_fault 5 = .ok (.getfield 248, 3) := by decide +kernel
theorem dX12_fault_8 : decode cX12_fault 8 = .ok (.goto 16, 3) := by decide +kernel
theorem dX12_fault_11 : decode cX12_fault 11 = .ok (.iload_n 1, 1) := by decide +kernel
theorem dX12_fault_12 : decode cX12_fault 12 = .ok (.iconst 1, 1) := by decide +kernel
theorem dX12_fault_13 : decode cX12_fault 13 = .ok (.if_icmp .ne 10, 3) := by decide +kernel
theorem dX12_fault_16 : decode cX12_fault 16 = .ok (.aload_n 0, 1) := by decide +kernel
theorem dX12_fault_17 : decode cX12_fault 17 = .ok (.getfield 41, 3) := by decide +kernel
theorem dX12_fault_20 : decode cX12_fault 20 = .ok (.goto 4, 3) := by decide +kernel
theorem dX12_fault_23 : decode cX12_fault 23 = .ok (.iconst (-1), 1) := by decide +kernel
theorem dX12_fault_24 : decode cX12_fault 24 = .ok (.ireturn, 1) := by decide +kernel
theorem dX12_named_0 : decode cX12_named 0 = .ok (.aload_n 0, 1) := by decide +kernel
theorem dX12_named_1 : decode cX12_named 1 = .ok (.invokevirtual 251, 3) := by decide +kernel
theorem dX12_named_4 : decode cX12_named 4 = .ok (.aload_n 0, 1) := by decide +kernel
theorem dX12_named_5 : decode cX12_named 5 = .ok (.invokevirtual 224, 3) := by decide +kernel
theorem dX12_named_8 : decode cX12_named 8 = .ok (.ifCond .eq 19, 3) := by decide +kernel
theorem dX12_named_11 : decode cX12_named 11 = .ok (.aload_n 0, 1) := by decide +kernel
theorem dX12_named_12 : decode cX12_named 12 = .ok (.aload_n 0, 1) := by decide +kernel
theorem dX12_named_13 : decode cX12_named 13 = .ok (.getfield 134, 3) := by decide +kernel
theorem dX12_named_16 : decode cX12_named 16 = .ok (.iconst 0, 1) := by decide +kernel
theorem dX12_named_17 : decode cX12_named 17 = .ok (.aload_n 0, 1) := by decide +kernel
theorem dX12_named_18 : decode cX12_named 18 = .ok (.getfield 263, 3) := by decide +kernel
theorem dX12_named_21 : decode cX12_named 21 = .ok (.invokevirtual 228, 3) := by decide +kernel
theorem dX12_named_24 : decode cX12_named 24 = .ok (.goto 4, 3) := by decide +kernel
theorem dX12_named_27 : decode cX12_named 27 = .ok (.iconst (-1), 1) := by decide +kernel
theorem dX12_named_28 : decode cX12_named 28 = .ok (.istore_n 1, 1) := by decide +kernel
theorem dX12_named_29 : decode cX12_named 29 = .ok (.aload_n 0, 1) := by decide +kernel
theorem dX12_named_30 : decode cX12_named 30 = .ok (.invokevirtual 195, 3) := by decide +kernel
theorem dX12_named_33 : decode cX12_named 33 = .ok (.aload_n 0, 1) := by decide +kernel
theorem dX12_named_34 : decode cX12_named 34 = .ok (.getfield 144, 3) := by decide +kernel
theorem dX12_named_37 : decode cX12_named 37 = .ok (.ifCond .ne 7, 3) := by decide +kernel
theorem dX12_named_40 : decode cX12_named 40 = .ok (.iconst 1, 1) := by decide +kernel
theorem dX12_named_41 : decode cX12_named 41 = .ok (.goto 4, 3) := by decide +kernel
theorem dX12_named_44 : decode cX12_named 44 = .ok (.iconst 0, 1) := by decide +kernel
theorem dX12_named_45 : decode cX12_named 45 = .ok (.istore_n 2, 1) := by decide +kernel
theorem dX12_named_46 : decode cX12_named 46 = .ok (.aload_n 0, 1) := by decide +kernel
theorem dX12_named_47 : decode cX12_named 47 = .ok (.iconst 0, 1) := by decide +kernel
theorem dX12_named_48 : decode cX12_named 48 = .ok (.putfield 113, 3) := by decide +kernel
theorem dX12_named_51 : decode cX12_named 51 = .ok (.iload_n 2, 1) := by decide +kernel
theorem dX12_named_52 : decode cX12_named 52 = .ok (.ifCond .eq 7, 3) := by decide +kernel
theorem dX12_named_55 : decode cX12_named 55 = .ok (.iload_n 1, 1) := by decide +kernel
theorem dX12_named_56 : decode cX12_named 56 = .ok (.goto 4, 3) := by decide +kernel
theorem dX12_named_59 : decode cX12_named 59 = .ok (.iconst (-1), 1) := by decide +kernel
theorem dX12_named_60 : decode cX12_named 60 = .ok (.ireturn, 1) := by decide +kernel
theorem dX12_isClub_0 : decode cX12_isClub 0 = .ok (.iload_n 1, 1) := by decide +kernel
theorem dX12_isClub_1 : decode cX12_isClub 1 = .ok (.i2l, 1) := by decide +kernel
theorem dX12_isClub_2 : decode cX12_isClub 2 = .ok (.lconst 0, 1) := by decide +kernel
theorem dX12_isClub_3 : decode cX12_isClub 3 = .ok (.aload_n 0, 1) := by decide +kernel
theorem dX12_isClub_4 : decode cX12_isClub 4 = .ok (.getfield 263, 3) := by decide +kernel
theorem dX12_isClub_7 : decode cX12_isClub 7 = .ok (.iconst 1, 1) := by decide +kernel
theorem dX12_isClub_8 : decode cX12_isClub 8 = .ok (.isub, 1) := by decide +kernel
theorem dX12_isClub_9 : decode cX12_isClub 9 = .ok (.i2l, 1) := by decide +kernel
theorem dX12_isClub_10 : decode cX12_isClub 10 = .ok (.invokestatic 120, 3) := by decide +kernel
theorem dX12_isClub_13 : decode cX12_isClub 13 = .ok (.ireturn, 1) := by decide +kernel
theorem dX12_plays_0 : decode cX12_plays 0 = .ok (.aload_n 0, 1) := by decide +kernel
theorem dX12_plays_1 : decode cX12_plays 1 = .ok (.iload_n 1, 1) := by decide +kernel
theorem dX12_plays_2 : decode cX12_plays 2 = .ok (.invokevirtual 284, 3) := by decide +kernel
theorem dX12_plays_5 : decode cX12_plays 5 = .ok (.ifCond .eq 16, 3) := by decide +kernel
theorem dX12_plays_8 : decode cX12_plays 8 = .ok (.aload_n 0, 1) := by decide +kernel
theorem dX12_plays_9 : decode cX12_plays 9 = .ok (.getfield 23, 3) := by decide +kernel
theorem dX12_plays_12 : decode cX12_plays 12 = .ok (.iload_n 1, 1) := by decide +kernel
theorem dX12_plays_13 : decode cX12_plays 13 = .ok (.iaload, 1) := by decide +kernel
theorem dX12_plays_14 : decode cX12_plays 14 = .ok (.ifCond .lt 7, 3) := by decide +kernel
theorem dX12_plays_17 : decode cX12_plays 17 = .ok (.iconst 1, 1) := by decide +kernel
theorem dX12_plays_18 : decode cX12_plays 18 = .ok (.goto 4, 3) := by decide +kernel
theorem dX12_plays_21 : decode cX12_plays 21 = .ok (.iconst 0, 1) := by decide +kernel
theorem dX12_plays_22 : decode cX12_plays 22 = .ok (.ireturn, 1) := by decide +kernel
theorem dX12_areTogether_0 : decode cX12_areTogether 0 = .ok (.aload_n 0, 1) := by decide +kernel
theorem dX12_areTogether_1 : decode cX12_areTogether 1 = .ok (.iload_n 1, 1) := by decide +kernel
theorem dX12_areTogether_2 : decode cX12_areTogether 2 = .ok (.invokevirtual 287, 3) := by decide +kernel
theorem dX12_areTogether_5 : decode cX12_areTogether 5 = .ok (.ifCond .eq 45, 3) := by decide +kernel
theorem dX12_areTogether_8 : decode cX12_areTogether 8 = .ok (.aload_n 0, 1) := by decide +kernel
theorem dX12_areTogether_9 : decode cX12_areTogether 9 = .ok (.iload_n 2, 1) := by decide +kernel
theorem dX12_areTogether_10 : decode cX12_areTogether 10 = .ok (.invokevirtual 287, 3) := by decide +kernel
theorem dX12_areTogether_13 : decode cX12_areTogether 13 = .ok (.ifCond .eq 37, 3) := by decide +kernel
theorem dX12_areTogether_16 : decode cX12_areTogether 16 = .ok (.aload_n 0, 1) := by decide +kernel
theorem dX12_areTogether_17 : decode cX12_areTogether 17 = .ok (.getfield 23, 3) := by decide +kernel
theorem dX12_areTogether_20 : decode cX12_areTogether 20 = .ok (.iload_n 1, 1) := by decide +kernel
theorem dX12_areTogether_21 : decode cX12_areTogether 21 = .ok (.iaload, 1) := by decide +kernel
theorem dX12_areTogether_22 : decode cX12_areTogether 22 = .ok (.aload_n 0, 1) := by decide +kernel
theorem dX12_areTogether_23 : decode cX12_areTogether 23 = .ok (.getfield 23, 3) := by decide +kernel
theorem dX12_areTogether_26 : decode cX12_areTogether 26 = .ok (.iload_n 2, 1) := by decide +kernel
theorem dX12_areTogether_27 : decode cX12_areTogether 27 = .ok (.iaload, 1) := by decide +kernel
theorem dX12_areTogether_28 : decode cX12_areTogether 28 = .ok (.if_icmp .ne 22, 3) := by decide +kernel
theorem dX12_areTogether_31 : decode cX12_areTogether 31 = .ok (.aload_n 0, 1) := by decide +kernel
theorem dX12_areTogether_32 : decode cX12_areTogether 32 = .ok (.getfield 26, 3) := by decide +kernel
theorem dX12_areTogether_35 : decode cX12_areTogether 35 = .ok (.iload_n 1, 1) := by decide +kernel
theorem dX12_areTogether_36 : decode cX12_areTogether 36 = .ok (.iaload, 1) := by decide +kernel
theorem dX12_areTogether_37 : decode cX12_areTogether 37 = .ok (.aload_n 0, 1) := by decide +kernel
theorem dX12_areTogether_38 : decode cX12_areTogether 38 = .ok (.getfield 26, 3) := by decide +kernel
theorem dX12_areTogether_41 : decode cX12_areTogether 41 = .ok (.iload_n 2, 1) := by decide +kernel
theorem dX12_areTogether_42 : decode cX12_areTogether 42 = .ok (.iaload, 1) := by decide +kernel
theorem dX12_areTogether_43 : decode cX12_areTogether 43 = .ok (.if_icmp .ne 7, 3) := by decide +kernel
theorem dX12_areTogether_46 : decode cX12_areTogether 46 = .ok (.iconst 1, 1) := by decide +kernel
theorem dX12_areTogether_47 : decode cX12_areTogether 47 = .ok (.goto 4, 3) := by decide +kernel
theorem dX12_areTogether_50 : decode cX12_areTogether 50 = .ok (.iconst 0, 1) := by decide +kernel
theorem dX12_areTogether_51 : decode cX12_areTogether 51 = .ok (.ireturn, 1) := by decide +kernel
theorem dX12_resign_0 : decode cX12_resign 0 = .ok (.aload_n 0, 1) := by decide +kernel
theorem dX12_resign_1 : decode cX12_resign 1 = .ok (.iload_n 1, 1) := by decide +kernel
theorem dX12_resign_2 : decode cX12_resign 2 = .ok (.invokevirtual 287, 3) := by decide +kernel
theorem dX12_resign_5 : decode cX12_resign 5 = .ok (.ifCond .eq 16, 3) := by decide +kernel
theorem dX12_resign_8 : decode cX12_resign 8 = .ok (.aload_n 0, 1) := by decide +kernel
theorem dX12_resign_9 : decode cX12_resign 9 = .ok (.getfield 32, 3) := by decide +kernel
theorem dX12_resign_12 : decode cX12_resign 12 = .ok (.bipush 30, 2) := by decide +kernel
theorem dX12_resign_14 : decode cX12_resign 14 = .ok (.iload_n 1, 1) := by decide +kernel
theorem dX12_resign_15 : decode cX12_resign 15 = .ok (.iadd, 1) := by decide +kernel
theorem dX12_resign_16 : decode cX12_resign 16 = .ok (.iaload, 1) := by decide +kernel
theorem dX12_resign_17 : decode cX12_resign 17 = .ok (.iconst 1, 1) := by decide +kernel
theorem dX12_resign_18 : decode cX12_resign 18 = .ok (.if_icmp .ne 5, 3) := by decide +kernel
theorem dX12_resign_21 : decode cX12_resign 21 = .ok (.iconst 0, 1) := by decide +kernel
theorem dX12_resign_22 : decode cX12_resign 22 = .ok (.ireturn, 1) := by decide +kernel
theorem dX12_resign_23 : decode cX12_resign 23 = .ok (.aload_n 0, 1) := by decide +kernel
theorem dX12_resign_24 : decode cX12_resign 24 = .ok (.invokevirtual 281, 3) := by decide +kernel
theorem dX12_resign_27 : decode cX12_resign 27 = .ok (.aload_n 0, 1) := by decide +kernel
theorem dX12_resign_28 : decode cX12_resign 28 = .ok (.getfield 32, 3) := by decide +kernel
theorem dX12_resign_31 : decode cX12_resign 31 = .ok (.bipush 30, 2) := by decide +kernel
theorem dX12_resign_33 : decode cX12_resign 33 = .ok (.iload_n 1, 1) := by decide +kernel
theorem dX12_resign_34 : decode cX12_resign 34 = .ok (.iadd, 1) := by decide +kernel
theorem dX12_resign_35 : decode cX12_resign 35 = .ok (.iconst 1, 1) := by decide +kernel
theorem dX12_resign_36 : decode cX12_resign 36 = .ok (.iastore, 1) := by decide +kernel
theorem dX12_resign_37 : decode cX12_resign 37 = .ok (.iconst 1, 1) := by decide +kernel
theorem dX12_resign_38 : decode cX12_resign 38 = .ok (.ireturn, 1) := by decide +kernel
theorem dX12_refuse_0 : decode cX12_refuse 0 = .ok (.aload_n 0, 1) := by decide +kernel
theorem dX12_refuse_1 : decode cX12_refuse 1 = .ok (.iload_n 1, 1) := by decide +kernel
theorem dX12_refuse_2 : decode cX12_refuse 2 = .ok (.invokevirtual 287, 3) := by decide +kernel
theorem dX12_refuse_5 : decode cX12_refuse 5 = .ok (.ifCond .eq 16, 3) := by decide +kernel
theorem dX12_refuse_8 : decode cX12_refuse 8 = .ok (.aload_n 0, 1) := by decide +kernel
theorem dX12_refuse_9 : decode cX12_refuse 9 = .ok (.getfield 32, 3) := by decide +kernel
theorem dX12_refuse_12 : decode cX12_refuse 12 = .ok (.bipush 60, 2) := by decide +kernel
theorem dX12_refuse_14 : decode cX12_refuse 14 = .ok (.iload_n 1, 1) := by decide +kernel
theorem dX12_refuse_15 : decode cX12_refuse 15 = .ok (.iadd, 1) := by decide +kernel
theorem dX12_refuse_16 : decode cX12_refuse 16 = .ok (.iaload, 1) := by decide +kernel
theorem dX12_refuse_17 : decode cX12_refuse 17 = .ok (.iconst 1, 1) := by decide +kernel
theorem dX12_refuse_18 : decode cX12_refuse 18 = .ok (.if_icmp .ne 5, 3) := by decide +kernel
theorem dX12_refuse_21 : decode cX12_refuse 21 = .ok (.iconst 0, 1) := by decide +kernel
theorem dX12_refuse_22 : decode cX12_refuse 22 = .ok (.ireturn, 1) := by decide +kernel
theorem dX12_refuse_23 : decode cX12_refuse 23 = .ok (.aload_n 0, 1) := by decide +kernel
theorem dX12_refuse_24 : decode cX12_refuse 24 = .ok (.invokevirtual 281, 3) := by decide +kernel
theorem dX12_refuse_27 : decode cX12_refuse 27 = .ok (.aload_n 0, 1) := by decide +kernel
theorem dX12_refuse_28 : decode cX12_refuse 28 = .ok (.getfield 32, 3) := by decide +kernel
theorem dX12_refuse_31 : decode cX12_refuse 31 = .ok (.bipush 60, 2) := by decide +kernel
theorem dX12_refuse_33 : decode cX12_refuse 33 = .ok (.iload_n 1, 1) := by decide +kernel
theorem dX12_refuse_34 : decode cX12_refuse 34 = .ok (.iadd, 1) := by decide +kernel
theorem dX12_refuse_35 : decode cX12_refuse 35 = .ok (.iconst 1, 1) := by decide +kernel
theorem dX12_refuse_36 : decode cX12_refuse 36 = .ok (.iastore, 1) := by decide +kernel
theorem dX12_refuse_37 : decode cX12_refuse 37 = .ok (.iconst 1, 1) := by decide +kernel
theorem dX12_refuse_38 : decode cX12_refuse 38 = .ok (.ireturn, 1) := by decide +kernel
theorem dX12_deduct_0 : decode cX12_deduct 0 = .ok (.aload_n 0, 1) := by decide +kernel
theorem dX12_deduct_1 : decode cX12_deduct 1 = .ok (.iload_n 1, 1) := by decide +kernel
theorem dX12_deduct_2 : decode cX12_deduct 2 = .ok (.invokevirtual 287, 3) := by decide +kernel
theorem dX12_deduct_5 : decode cX12_deduct 5 = .ok (.ifCond .eq 32, 3) := by decide +kernel
theorem dX12_deduct_8 : decode cX12_deduct 8 = .ok (.iload_n 2, 1) := by decide +kernel
theorem dX12_deduct_9 : decode cX12_deduct 9 = .ok (.i2l, 1) := by decide +kernel
theorem dX12_deduct_10 : decode cX12_deduct 10 = .ok (.lconst 1, 1) := by decide +kernel
theorem dX12_deduct_11 : decode cX12_deduct 11 = .ok (.ldc2_w 290, 3) := by decide +kernel
theorem dX12_deduct_14 : decode cX12_deduct 14 = .ok (.invokestatic 120, 3) := by decide +kernel
theorem dX12_deduct_17 : decode cX12_deduct 17 = .ok (.ifCond .eq 20, 3) := by decide +kernel
theorem dX12_deduct_20 : decode cX12_deduct 20 = .ok (.aload_n 0, 1) := by decide +kernel
theorem dX12_deduct_21 : decode cX12_deduct 21 = .ok (.getfield 32, 3) := by decide +kernel
theorem dX12_deduct_24 : decode cX12_deduct 24 = .ok (.bipush 90, 2) := by decide +kernel
theorem dX12_deduct_26 : decode cX12_deduct 26 = .ok (.iload_n 1, 1) := by decide +kernel
theorem dX12_deduct_27 : decode cX12_deduct 27 = .ok (.iadd, 1) := by decide +kernel
theorem dX12_deduct_28 : decode cX12_deduct 28 = .ok (.iaload, 1) := by decide +kernel
theorem dX12_deduct_29 : decode cX12_deduct 29 = .ok (.iload_n 2, 1) := by decide +kernel
theorem dX12_deduct_30 : decode cX12_deduct 30 = .ok (.iadd, 1) := by decide +kernel
theorem dX12_deduct_31 : decode cX12_deduct 31 = .ok (.sipush 999, 3) := by decide +kernel
theorem dX12_deduct_34 : decode cX12_deduct 34 = .ok (.if_icmp .le 5, 3) := by decide +kernel
theorem dX12_deduct_37 : decode cX12_deduct 37 = .ok (.iconst 0, 1) := by decide +kernel
theorem dX12_deduct_38 : decode cX12_deduct 38 = .ok (.ireturn, 1) := by decide +kernel
theorem dX12_deduct_39 : decode cX12_deduct 39 = .ok (.aload_n 0, 1) := by decide +kernel
theorem dX12_deduct_40 : decode cX12_deduct 40 = .ok (.invokevirtual 281, 3) := by decide +kernel
theorem dX12_deduct_43 : decode cX12_deduct 43 = .ok (.aload_n 0, 1) := by decide +kernel
theorem dX12_deduct_44 : decode cX12_deduct 44 = .ok (.getfield 32, 3) := by decide +kernel
theorem dX12_deduct_47 : decode cX12_deduct 47 = .ok (.bipush 90, 2) := by decide +kernel
theorem dX12_deduct_49 : decode cX12_deduct 49 = .ok (.iload_n 1, 1) := by decide +kernel
theorem dX12_deduct_50 : decode cX12_deduct 50 = .ok (.iadd, 1) := by decide +kernel
theorem dX12_deduct_51 : decode cX12_deduct 51 = .ok (.dup2, 1) := by decide +kernel
theorem dX12_deduct_52 : decode cX12_deduct 52 = .ok (.iaload, 1) := by decide +kernel
theorem dX12_deduct_53 : decode cX12_deduct 53 = .ok (.iload_n 2, 1) := by decide +kernel
theorem dX12_deduct_54 : decode cX12_deduct 54 = .ok (.iadd, 1) := by decide +kernel
theorem dX12_deduct_55 : decode cX12_deduct 55 = .ok (.iastore, 1) := by decide +kernel
theorem dX12_deduct_56 : decode cX12_deduct 56 = .ok (.iconst 1, 1) := by decide +kernel
theorem dX12_deduct_57 : decode cX12_deduct 57 = .ok (.ireturn, 1) := by decide +kernel
theorem dX12_grade_0 : decode cX12_grade 0 = .ok (.aload_n 0, 1) := by decide +kernel
theorem dX12_grade_1 : decode cX12_grade 1 = .ok (.iload_n 1, 1) := by decide +kernel
theorem dX12_grade_2 : decode cX12_grade 2 = .ok (.invokevirtual 284, 3) := by decide +kernel
theorem dX12_grade_5 : decode cX12_grade 5 = .ok (.ifCond .eq 38, 3) := by decide +kernel
theorem dX12_grade_8 : decode cX12_grade 8 = .ok (.aload_n 0, 1) := by decide +kernel
theorem dX12_grade_9 : decode cX12_grade 9 = .ok (.getfield 23, 3) := by decide +kernel
theorem dX12_grade_12 : decode cX12_grade 12 = .ok (.iload_n 1, 1) := by decide +kernel
theorem dX12_grade_13 : decode cX12_grade 13 = .ok (.iaload, 1) := by decide +kernel
theorem dX12_grade_14 : decode cX12_grade 14 = .ok (.bipush (-2), 2) := by decide +kernel
theorem dX12_grade_16 : decode cX12_grade 16 = .ok (.if_icmp .eq 27, 3) := by decide +kernel
theorem dX12_grade_19 : decode cX12_grade 19 = .ok (.iload_n 2, 1) := by decide +kernel
theorem dX12_grade_20 : decode cX12_grade 20 = .ok (.i2l, 1) := by decide +kernel
theorem dX12_grade_21 : decode cX12_grade 21 = .ok (.lconst 0, 1) := by decide +kernel
theorem dX12_grade_22 : decode cX12_grade 22 = .ok (.ldc2_w 292, 3) := by decide +kernel
theorem dX12_grade_25 : decode cX12_grade 25 = .ok (.invokestatic 120, 3) := by decide +kernel
theorem dX12_grade_28 : decode cX12_grade 28 = .ok (.ifCond .eq 15, 3) := by decide +kernel
theorem dX12_grade_31 : decode cX12_grade 31 = .ok (.aload_n 0, 1) := by decide +kernel
theorem dX12_grade_32 : decode cX12_grade 32 = .ok (.getfield 32, 3) := by decide +kernel
theorem dX12_grade_35 : decode cX12_grade 35 = .ok (.iconst 0, 1) := by decide +kernel
theorem dX12_grade_36 : decode cX12_grade 36 = .ok (.iload_n 1, 1) := by decide +kernel
theorem dX12_grade_37 : decode cX12_grade 37 = .ok (.iadd, 1) := by decide +kernel
theorem dX12_grade_38 : decode cX12_grade 38 = .ok (.iaload, 1) := by decide +kernel
theorem dX12_grade_39 : decode cX12_grade 39 = .ok (.iload_n 2, 1) := by decide +kernel
theorem dX12_grade_40 : decode cX12_grade 40 = .ok (.if_icmp .ne 5, 3) := by decide +kernel
theorem dX12_grade_43 : decode cX12_grade 43 = .ok (.iconst 0, 1) := by decide +kernel
theorem dX12_grade_44 : decode cX12_grade 44 = .ok (.ireturn, 1) := by decide +kernel
theorem dX12_grade_45 : decode cX12_grade 45 = .ok (.aload_n 0, 1) := by decide +kernel
theorem dX12_grade_46 : decode cX12_grade 46 = .ok (.invokevirtual 281, 3) := by decide +kernel
theorem dX12_grade_49 : decode cX12_grade 49 = .ok (.aload_n 0, 1) := by decide +kernel
theorem dX12_grade_50 : decode cX12_grade 50 = .ok (.getfield 32, 3) := by decide +kernel
theorem dX12_grade_53 : decode cX12_grade 53 = .ok (.iconst 0, 1) := by decide +kernel
theorem dX12_grade_54 : decode cX12_grade 54 = .ok (.iload_n 1, 1) := by decide +kernel
theorem dX12_grade_55 : decode cX12_grade 55 = .ok (.iadd, 1) := by decide +kernel
theorem dX12_grade_56 : decode cX12_grade 56 = .ok (.iload_n 2, 1) := by decide +kernel
theorem dX12_grade_57 : decode cX12_grade 57 = .ok (.iastore, 1) := by decide +kernel
theorem dX12_grade_58 : decode cX12_grade 58 = .ok (.iconst 1, 1) := by decide +kernel
theorem dX12_grade_59 : decode cX12_grade 59 = .ok (.ireturn, 1) := by decide +kernel
theorem dX12_goalsAt_0 : decode cX12_goalsAt 0 = .ok (.aload_n 0, 1) := by decide +kernel
theorem dX12_goalsAt_1 : decode cX12_goalsAt 1 = .ok (.getfield 32, 3) := by decide +kernel
theorem dX12_goalsAt_4 : decode cX12_goalsAt 4 = .ok (.bipush 120, 2) := by decide +kernel
theorem dX12_goalsAt_6 : decode cX12_goalsAt 6 = .ok (.bipush 30, 2) := by decide +kernel
theorem dX12_goalsAt_8 : decode cX12_goalsAt 8 = .ok (.iload_n 1, 1) := by decide +kernel
theorem dX12_goalsAt_9 : decode cX12_goalsAt 9 = .ok (.imul, 1) := by decide +kernel
theorem dX12_goalsAt_10 : decode cX12_goalsAt 10 = .ok (.iadd, 1) := by decide +kernel
theorem dX12_goalsAt_11 : decode cX12_goalsAt 11 = .ok (.iload_n 2, 1) := by decide +kernel
theorem dX12_goalsAt_12 : decode cX12_goalsAt 12 = .ok (.iadd, 1) := by decide +kernel
theorem dX12_goalsAt_13 : decode cX12_goalsAt 13 = .ok (.iaload, 1) := by decide +kernel
theorem dX12_goalsAt_14 : decode cX12_goalsAt 14 = .ok (.ireturn, 1) := by decide +kernel
theorem dX12_gains_0 : decode cX12_gains 0 = .ok (.iload_n 0, 1) := by decide +kernel
theorem dX12_gains_1 : decode cX12_gains 1 = .ok (.iload_n 1, 1) := by decide +kernel
theorem dX12_gains_2 : decode cX12_gains 2 = .ok (.if_icmp .le 7, 3) := by decide +kernel
theorem dX12_gains_5 : decode cX12_gains 5 = .ok (.iconst 3, 1) := by decide +kernel
theorem dX12_gains_6 : decode cX12_gains 6 = .ok (.goto 13, 3) := by decide +kernel
theorem dX12_gains_9 : decode cX12_gains 9 = .ok (.iload_n 0, 1) := by decide +kernel
theorem dX12_gains_10 : decode cX12_gains 10 = .ok (.iload_n 1, 1) := by decide +kernel
theorem dX12_gains_11 : decode cX12_gains 11 = .ok (.if_icmp .ne 7, 3) := by decide +kernel
theorem dX12_gains_14 : decode cX12_gains 14 = .ok (.iconst 1, 1) := by decide +kernel
theorem dX12_gains_15 : decode cX12_gains 15 = .ok (.goto 4, 3) := by decide +kernel
theorem dX12_gains_18 : decode cX12_gains 18 = .ok (.iconst 0, 1) := by decide +kernel
theorem dX12_gains_19 : decode cX12_gains 19 = .ok (.ireturn, 1) := by decide +kernel
theorem dX12_sumOf_0 : decode cX12_sumOf 0 = .ok (.iconst 0, 1) := by decide +kernel
theorem dX12_sumOf_1 : decode cX12_sumOf 1 = .ok (.istore_n 3, 1) := by decide +kernel
theorem dX12_sumOf_2 : decode cX12_sumOf 2 = .ok (.iconst 0, 1) := by decide +kernel
theorem dX12_sumOf_3 : decode cX12_sumOf 3 = .ok (.istore 4, 2) := by decide +kernel
theorem dX12_sumOf_5 : decode cX12_sumOf 5 = .ok (.iload 4, 2) := by decide +kernel
theorem dX12_sumOf_7 : decode cX12_sumOf 7 = .ok (.aload_n 0, 1) := by decide +kernel
theorem dX12_sumOf_8 : decode cX12_sumOf 8 = .ok (.getfield 263, 3) := by decide +kernel
theorem dX12_sumOf_11 : decode cX12_sumOf 11 = .ok (.if_icmp .ge 73, 3) := by decide +kernel
theorem dX12_sumOf_14 : decode cX12_sumOf 14 = .ok (.aload_n 0, 1) := by decide +kernel
theorem dX12_sumOf_15 : decode cX12_sumOf 15 = .ok (.iload_n 1, 1) := by decide +kernel
theorem dX12_sumOf_16 : decode cX12_sumOf 16 = .ok (.iload 4, 2) := by decide +kernel
theorem dX12_sumOf_18 : decode cX12_sumOf 18 = .ok (.invokevirtual 294, 3) := by decide +kernel
theorem dX12_sumOf_21 : decode cX12_sumOf 21 = .ok (.istore 5, 2) := by decide +kernel
theorem dX12_sumOf_23 : decode cX12_sumOf 23 = .ok (.iload 5, 2) := by decide +kernel
theorem dX12_sumOf_25 : decode cX12_sumOf 25 = .ok (.iconst (-1), 1) := by decide +kernel
theorem dX12_sumOf_26 : decode cX12_sumOf 26 = .ok (.if_icmp .eq 20, 3) := by decide +kernel
theorem dX12_sumOf_29 : decode cX12_sumOf 29 = .ok (.iload_n 3, 1) := by decide +kernel
theorem dX12_sumOf_30 : decode cX12_sumOf 30 = .ok (.iload 5, 2) := by decide +kernel
theorem dX12_sumOf_32 : decode cX12_sumOf 32 = .ok (.bipush 100, 2) := by decide +kernel
theorem dX12_sumOf_34 : decode cX12_sumOf 34 = .ok (.idiv, 1) := by decide +kernel
theorem dX12_sumOf_35 : decode cX12_sumOf 35 = .ok (.iload 5, 2) := by decide +kernel
theorem dX12_sumOf_37 : decode cX12_sumOf 37 = .ok (.bipush 100, 2) := by decide +kernel
theorem dX12_sumOf_39 : decode cX12_sumOf 39 = .ok (.irem, 1) := by decide +kernel
theorem dX12_sumOf_40 : decode cX12_sumOf 40 = .ok (.iload_n 2, 1) := by decide +kernel
theorem dX12_sumOf_41 : decode cX12_sumOf 41 = .ok (.invokestatic 297, 3) := by decide +kernel
theorem dX12_sumOf_44 : decode cX12_sumOf 44 = .ok (.iadd, 1) := by decide +kernel
theorem dX12_sumOf_45 : decode cX12_sumOf 45 = .ok (.istore_n 3, 1) := by decide +kernel
theorem dX12_sumOf_46 : decode cX12_sumOf 46 = .ok (.aload_n 0, 1) := by decide +kernel
theorem dX12_sumOf_47 : decode cX12_sumOf 47 = .ok (.iload 4, 2) := by decide +kernel
theorem dX12_sumOf_49 : decode cX12_sumOf 49 = .ok (.iload_n 1, 1) := by decide +kernel
theorem dX12_sumOf_50 : decode cX12_sumOf 50 = .ok (.invokevirtual 294, 3) := by decide +kernel
theorem dX12_sumOf_53 : decode cX12_sumOf 53 = .ok (.istore 5, 2) := by decide +kernel
theorem dX12_sumOf_55 : decode cX12_sumOf 55 = .ok (.iload 5, 2) := by decide +kernel
theorem dX12_sumOf_57 : decode cX12_sumOf 57 = .ok (.iconst (-1), 1) := by decide +kernel
theorem dX12_sumOf_58 : decode cX12_sumOf 58 = .ok (.if_icmp .eq 20, 3) := by decide +kernel
theorem dX12_sumOf_61 : decode cX12_sumOf 61 = .ok (.iload_n 3, 1) := by decide +kernel
theorem dX12_sumOf_62 : decode cX12_sumOf 62 = .ok (.iload 5, 2) := by decide +kernel
theorem dX12_sumOf_64 : decode cX12_sumOf 64 = .ok (.bipush 100, 2) := by decide +kernel
theorem dX12_sumOf_66 : decode cX12_sumOf 66 = .ok (.irem, 1) := by decide +kernel
theorem dX12_sumOf_67 : decode cX12_sumOf 67 = .ok (.iload 5, 2) := by decide +kernel
theorem dX12_sumOf_69 : decode cX12_sumOf 69 = .ok (.bipush 100, 2) := by decide +kernel
theorem dX12_sumOf_71 : decode cX12_sumOf 71 = .ok (.idiv, 1) := by decide +kernel
theorem dX12_sumOf_72 : decode cX12_sumOf 72 = .ok (.iload_n 2, 1) := by decide +kernel
theorem dX12_sumOf_73 : decode cX12_sumOf 73 = .ok (.invokestatic 297, 3) := by decide +kernel
theorem dX12_sumOf_76 : decode cX12_sumOf 76 = .ok (.iadd, 1) := by decide +kernel
theorem dX12_sumOf_77 : decode cX12_sumOf 77 = .ok (.istore_n 3, 1) := by decide +kernel
theorem dX12_sumOf_78 : decode cX12_sumOf 78 = .ok (.iinc 4 1, 3) := by decide +kernel
theorem dX12_sumOf_81 : decode cX12_sumOf 81 = .ok (.goto (-76), 3) := by decide +kernel
theorem dX12_sumOf_84 : decode cX12_sumOf 84 = .ok (.iload_n 3, 1) := by decide +kernel
theorem dX12_sumOf_85 : decode cX12_sumOf 85 = .ok (.ireturn, 1) := by decide +kernel
theorem dX12_partOf_0 : decode cX12_partOf 0 = .ok (.iload_n 2, 1) := by decide +kernel
theorem dX12_partOf_1 : decode cX12_partOf 1 = .ok (.ifCond .ne 7, 3) := by decide +kernel
theorem dX12_partOf_4 : decode cX12_partOf 4 = .ok (.iconst 1, 1) := by decide +kernel
theorem dX12_partOf_5 : decode cX12_partOf 5 = .ok (.goto 55, 3) := by decide +kernel
theorem dX12_partOf_8 : decode cX12_partOf 8 = .ok (.iload_n 2, 1) := by decide +kernel
theorem dX12_partOf_9 : decode cX12_partOf 9 = .ok (.iconst 1, 1) := by decide +kernel
theorem dX12_partOf_10 : decode cX12_partOf 10 = .ok (.if_icmp .ne 19, 3) := by decide +kernel
theorem dX12_partOf_13 : decode cX12_partOf 13 = .ok (.iload_n 0, 1) := by decide +kernel
theorem dX12_partOf_14 : decode cX12_partOf 14 = .ok (.iload_n 1, 1) := by decide +kernel
theorem dX12_partOf_15 : decode cX12_partOf 15 = .ok (.if_icmp .le 7, 3) := by decide +kernel
theorem dX12_partOf_18 : decode cX12_partOf 18 = .ok (.iconst 1, 1) := by decide +kernel
theorem dX12_partOf_19 : decode cX12_partOf 19 = .ok (.goto 4, 3) := by decide +kernel
theorem dX12_partOf_22 : decode cX12_partOf 22 = .ok (.iconst 0, 1) := by decide +kernel
theorem dX12_partOf_23 : decode cX12_partOf 23 = .ok (.invokestatic 235, 3) := by decide +kernel
theorem dX12_partOf_26 : decode cX12_partOf 26 = .ok (.goto 34, 3) := by decide +kernel
theorem dX12_partOf_29 : decode cX12_partOf 29 = .ok (.iload_n 2, 1) := by decide +kernel
theorem dX12_partOf_30 : decode cX12_partOf 30 = .ok (.iconst 2, 1) := by decide +kernel
theorem dX12_partOf_31 : decode cX12_partOf 31 = .ok (.if_icmp .ne 19, 3) := by decide +kernel
theorem dX12_partOf_34 : decode cX12_partOf 34 = .ok (.iload_n 0, 1) := by decide +kernel
theorem dX12_partOf_35 : decode cX12_partOf 35 = .ok (.iload_n 1, 1) := by decide +kernel
theorem dX12_partOf_36 : decode cX12_partOf 36 = .ok (.if_icmp .ne 7, 3) := by decide +kernel
theorem dX12_partOf_39 : decode cX12_partOf 39 = .ok (.iconst 1, 1) := by decide +kernel
theorem dX12_partOf_40 : decode cX12_partOf 40 = .ok (.goto 4, 3) := by decide +kernel
theorem dX12_partOf_43 : decode cX12_partOf 43 = .ok (.iconst 0, 1) := by decide +kernel
theorem dX12_partOf_44 : decode cX12_partOf 44 = .ok (.invokestatic 235, 3) := by decide +kernel
theorem dX12_partOf_47 : decode cX12_partOf 47 = .ok (.goto 13, 3) := by decide +kernel
theorem dX12_partOf_50 : decode cX12_partOf 50 = .ok (.iload_n 2, 1) := by decide +kernel
theorem dX12_partOf_51 : decode cX12_partOf 51 = .ok (.iconst 3, 1) := by decide +kernel
theorem dX12_partOf_52 : decode cX12_partOf 52 = .ok (.if_icmp .ne 7, 3) := by decide +kernel
theorem dX12_partOf_55 : decode cX12_partOf 55 = .ok (.iload_n 0, 1) := by decide +kernel
theorem dX12_partOf_56 : decode cX12_partOf 56 = .ok (.goto 4, 3) := by decide +kernel
theorem dX12_partOf_59 : decode cX12_partOf 59 = .ok (.iload_n 1, 1) := by decide +kernel
theorem dX12_partOf_60 : decode cX12_partOf 60 = .ok (.ireturn, 1) := by decide +kernel
theorem dX12_pointsOf_0 : decode cX12_pointsOf 0 = .ok (.iconst 3, 1) := by decide +kernel
theorem dX12_pointsOf_1 : decode cX12_pointsOf 1 = .ok (.aload_n 0, 1) := by decide +kernel
theorem dX12_pointsOf_2 : decode cX12_pointsOf 2 = .ok (.iload_n 1, 1) := by decide +kernel
theorem dX12_pointsOf_3 : decode cX12_pointsOf 3 = .ok (.iconst 1, 1) := by decide +kernel
theorem dX12_pointsOf_4 : decode cX12_pointsOf 4 = .ok (.invokevirtual 301, 3) := by decide +kernel
theorem dX12_pointsOf_7 : decode cX12_pointsOf 7 = .ok (.imul, 1) := by decide +kernel
theorem dX12_pointsOf_8 : decode cX12_pointsOf 8 = .ok (.aload_n 0, 1) := by decide +kernel
theorem dX12_pointsOf_9 : decode cX12_pointsOf 9 = .ok (.iload_n 1, 1) := by decide +kernel
theorem dX12_pointsOf_10 : decode cX12_pointsOf 10 = .ok (.iconst 2, 1) := by decide +kernel
theorem dX12_pointsOf_11 : decode cX12_pointsOf 11 = .ok (.invokevirtual 301, 3) := by decide +kernel
theorem dX12_pointsOf_14 : decode cX12_pointsOf 14 = .ok (.iadd, 1) := by decide +kernel
theorem dX12_pointsOf_15 : decode cX12_pointsOf 15 = .ok (.aload_n 0, 1) := by decide +kernel
theorem dX12_pointsOf_16 : decode cX12_pointsOf 16 = .ok (.getfield 32, 3) := by decide +kernel
theorem dX12_pointsOf_19 : decode cX12_pointsOf 19 = .ok (.bipush 90, 2) := by decide +kernel
theorem dX12_pointsOf_21 : decode cX12_pointsOf 21 = .ok (.iload_n 1, 1) := by decide +kernel
theorem dX12_pointsOf_22 : decode cX12_pointsOf 22 = .ok (.iadd, 1) := by decide +kernel
theorem dX12_pointsOf_23 : decode cX12_pointsOf 23 = .ok (.iaload, 1) := by decide +kernel
theorem dX12_pointsOf_24 : decode cX12_pointsOf 24 = .ok (.isub, 1) := by decide +kernel
theorem dX12_pointsOf_25 : decode cX12_pointsOf 25 = .ok (.ireturn, 1) := by decide +kernel
theorem dX12_averageOf_0 : decode cX12_averageOf 0 = .ok (.aload_n 0, 1) := by decide +kernel
theorem dX12_averageOf_1 : decode cX12_averageOf 1 = .ok (.iload_n 1, 1) := by decide +kernel
theorem dX12_averageOf_2 : decode cX12_averageOf 2 = .ok (.iconst 0, 1) := by decide +kernel
theorem dX12_averageOf_3 : decode cX12_averageOf 3 = .ok (.invokevirtual 301, 3) := by decide +kernel
theorem dX12_averageOf_6 : decode cX12_averageOf 6 = .ok (.istore_n 2, 1) := by decide +kernel
theorem dX12_averageOf_7 : decode cX12_averageOf 7 = .ok (.iload_n 2, 1) := by decide +kernel
theorem dX12_averageOf_8 : decode cX12_averageOf 8 = .ok (.ifCond .ne 7, 3) := by decide +kernel
theorem dX12_averageOf_11 : decode cX12_averageOf 11 = .ok (.fconst 0, 1) := by decide +kernel
theorem dX12_averageOf_12 : decode cX12_averageOf 12 = .ok (.goto 12, 3) := by decide +kernel
theorem dX12_averageOf_15 : decode cX12_averageOf 15 = .ok (.aload_n 0, 1) := by decide +kernel
theorem dX12_averageOf_16 : decode cX12_averageOf 16 = .ok (.iload_n 1, 1) := by decide +kernel
theorem dX12_averageOf_17 : decode cX12_averageOf 17 = .ok (.invokevirtual 304, 3) := by decide +kernel
theorem dX12_averageOf_20 : decode cX12_averageOf 20 = .ok (.i2f, 1) := by decide +kernel
theorem dX12_averageOf_21 : decode cX12_averageOf 21 = .ok (.iload_n 2, 1) := by decide +kernel
theorem dX12_averageOf_22 : decode cX12_averageOf 22 = .ok (.i2f, 1) := by decide +kernel
theorem dX12_averageOf_23 : decode cX12_averageOf 23 = .ok (.fdiv, 1) := by decide +kernel
theorem dX12_averageOf_24 : decode cX12_averageOf 24 = .ok (.freturn, 1) := by decide +kernel
theorem dX12_laysRanks_0 : decode cX12_laysRanks 0 = .ok (.iconst 0, 1) := by decide +kernel
theorem dX12_laysRanks_1 : decode cX12_laysRanks 1 = .ok (.istore_n 1, 1) := by decide +kernel
theorem dX12_laysRanks_2 : decode cX12_laysRanks 2 = .ok (.iload_n 1, 1) := by decide +kernel
theorem dX12_laysRanks_3 : decode cX12_laysRanks 3 = .ok (.aload_n 0, 1) := by decide +kernel
theorem dX12_laysRanks_4 : decode cX12_laysRanks 4 = .ok (.getfield 263, 3) := by decide +kernel
theorem dX12_laysRanks_7 : decode cX12_laysRanks 7 = .ok (.if_icmp .ge 62, 3) := by decide +kernel
theorem dX12_laysRanks_10 : decode cX12_laysRanks 10 = .ok (.aload_n 0, 1) := by decide +kernel
theorem dX12_laysRanks_11 : decode cX12_laysRanks 11 = .ok (.getfield 48, 3) := by decide +kernel
theorem dX12_laysRanks_14 : decode cX12_laysRanks 14 = .ok (.iload_n 1, 1) := by decide +kernel
theorem dX12_laysRanks_15 : decode cX12_laysRanks 15 = .ok (.aload_n 0, 1) := by decide +kernel
theorem dX12_laysRanks_16 : decode cX12_laysRanks 16 = .ok (.iload_n 1, 1) := by decide +kernel
theorem dX12_laysRanks_17 : decode cX12_laysRanks 17 = .ok (.invokevirtual 304, 3) := by decide +kernel
theorem dX12_laysRanks_20 : decode cX12_laysRanks 20 = .ok (.iastore, 1) := by decide +kernel
theorem dX12_laysRanks_21 : decode cX12_laysRanks 21 = .ok (.aload_n 0, 1) := by decide +kernel
theorem dX12_laysRanks_22 : decode cX12_laysRanks 22 = .ok (.getfield 54, 3) := by decide +kernel
theorem dX12_laysRanks_25 : decode cX12_laysRanks 25 = .ok (.iload_n 1, 1) := by decide +kernel
theorem dX12_laysRanks_26 : decode cX12_laysRanks 26 = .ok (.aload_n 0, 1) := by decide +kernel
theorem dX12_laysRanks_27 : decode cX12_laysRanks 27 = .ok (.iload_n 1, 1) := by decide +kernel
theorem dX12_laysRanks_28 : decode cX12_laysRanks 28 = .ok (.iconst 3, 1) := by decide +kernel
theorem dX12_laysRanks_29 : decode cX12_laysRanks 29 = .ok (.invokevirtual 301, 3) := by decide +kernel
theorem dX12_laysRanks_32 : decode cX12_laysRanks 32 = .ok (.iastore, 1) := by decide +kernel
theorem dX12_laysRanks_33 : decode cX12_laysRanks 33 = .ok (.aload_n 0, 1) := by decide +kernel
theorem dX12_laysRanks_34 : decode cX12_laysRanks 34 = .ok (.getfield 51, 3) := by decide +kernel
theorem dX12_laysRanks_37 : decode cX12_laysRanks 37 = .ok (.iload_n 1, 1) := by decide +kernel
theorem dX12_laysRanks_38 : decode cX12_laysRanks 38 = .ok (.aload_n 0, 1) := by decide +kernel
theorem dX12_laysRanks_39 : decode cX12_laysRanks 39 = .ok (.getfield 54, 3) := by decide +kernel
theorem dX12_laysRanks_42 : decode cX12_laysRanks 42 = .ok (.iload_n 1, 1) := by decide +kernel
theorem dX12_laysRanks_43 : decode cX12_laysRanks 43 = .ok (.iaload, 1) := by decide +kernel
theorem dX12_laysRanks_44 : decode cX12_laysRanks 44 = .ok (.aload_n 0, 1) := by decide +kernel
theorem dX12_laysRanks_45 : decode cX12_laysRanks 45 = .ok (.iload_n 1, 1) := by decide +kernel
theorem dX12_laysRanks_46 : decode cX12_laysRanks 46 = .ok (.iconst 4, 1) := by decide +kernel
theorem dX12_laysRanks_47 : decode cX12_laysRanks 47 = .ok (.invokevirtual 301, 3) := by decide +kernel
theorem dX12_laysRanks_50 : decode cX12_laysRanks 50 = .ok (.isub, 1) := by decide +kernel
theorem dX12_laysRanks_51 : decode cX12_laysRanks 51 = .ok (.iastore, 1) := by decide +kernel
theorem dX12_laysRanks_52 : decode cX12_laysRanks 52 = .ok (.aload_n 0, 1) := by decide +kernel
theorem dX12_laysRanks_53 : decode cX12_laysRanks 53 = .ok (.getfield 60, 3) := by decide +kernel
theorem dX12_laysRanks_56 : decode cX12_laysRanks 56 = .ok (.iload_n 1, 1) := by decide +kernel
theorem dX12_laysRanks_57 : decode cX12_laysRanks 57 = .ok (.aload_n 0, 1) := by decide +kernel
theorem dX12_laysRanks_58 : decode cX12_laysRanks 58 = .ok (.iload_n 1, 1) := by decide +kernel
theorem dX12_laysRanks_59 : decode cX12_laysRanks 59 = .ok (.invokevirtual 307, 3) := by decide +kernel
theorem dX12_laysRanks_62 : decode cX12_laysRanks 62 = .ok (.fastore, 1) := by decide +kernel
theorem dX12_laysRanks_63 : decode cX12_laysRanks 63 = .ok (.iinc 1 1, 3) := by decide +kernel
theorem dX12_laysRanks_66 : decode cX12_laysRanks 66 = .ok (.goto (-64), 3) := by decide +kernel
theorem dX12_laysRanks_69 : decode cX12_laysRanks 69 = .ok (.iconst 0, 1) := by decide +kernel
theorem dX12_laysRanks_70 : decode cX12_laysRanks 70 = .ok (.istore_n 1, 1) := by decide +kernel
theorem dX12_laysRanks_71 : decode cX12_laysRanks 71 = .ok (.iload_n 1, 1) := by decide +kernel
theorem dX12_laysRanks_72 : decode cX12_laysRanks 72 = .ok (.aload_n 0, 1) := by decide +kernel
theorem dX12_laysRanks_73 : decode cX12_laysRanks 73 = .ok (.getfield 263, 3) := by decide +kernel
theorem dX12_laysRanks_76 : decode cX12_laysRanks 76 = .ok (.if_icmp .ge 72, 3) := by decide +kernel
theorem dX12_laysRanks_79 : decode cX12_laysRanks 79 = .ok (.aload_n 0, 1) := by decide +kernel
theorem dX12_laysRanks_80 : decode cX12_laysRanks 80 = .ok (.getfield 57, 3) := by decide +kernel
theorem dX12_laysRanks_83 : decode cX12_laysRanks 83 = .ok (.iload_n 1, 1) := by decide +kernel
theorem dX12_laysRanks_84 : decode cX12_laysRanks 84 = .ok (.iconst 1, 1) := by decide +kernel
theorem dX12_laysRanks_85 : decode cX12_laysRanks 85 = .ok (.iastore, 1) := by decide +kernel
theorem dX12_laysRanks_86 : decode cX12_laysRanks 86 = .ok (.iconst 0, 1) := by decide +kernel
theorem dX12_laysRanks_87 : decode cX12_laysRanks 87 = .ok (.istore_n 2, 1) := by decide +kernel
theorem dX12_laysRanks_88 : decode cX12_laysRanks 88 = .ok (.iload_n 2, 1) := by decide +kernel
theorem dX12_laysRanks_89 : decode cX12_laysRanks 89 = .ok (.aload_n 0, 1) := by decide +kernel
theorem dX12_laysRanks_90 : decode cX12_laysRanks 90 = .ok (.getfield 263, 3) := by decide +kernel
theorem dX12_laysRanks_93 : decode cX12_laysRanks 93 = .ok (.if_icmp .ge 49, 3) := by decide +kernel
theorem dX12_laysRanks_96 : decode cX12_laysRanks 96 = .ok (.aload_n 0, 1) := by decide +kernel
theorem dX12_laysRanks_97 : decode cX12_laysRanks 97 = .ok (.getfield 57, 3) := by decide +kernel
theorem dX12_laysRanks_100 : decode cX12_laysRanks 100 = .ok (.iload_n 1, 1) := by decide +kernel
theorem dX12_laysRanks_101 : decode cX12_laysRanks 101 = .ok (.dup2, 1) := by decide +kernel
theorem dX12_laysRanks_102 : decode cX12_laysRanks 102 = .ok (.iaload, 1) := by decide +kernel
theorem dX12_laysRanks_103 : decode cX12_laysRanks 103 = .ok (.iload_n 2, 1) := by decide +kernel
theorem dX12_laysRanks_104 : decode cX12_laysRanks 104 = .ok (.iload_n 1, 1) := by decide +kernel
theorem dX12_laysRanks_105 : decode cX12_laysRanks 105 = .ok (.if_icmp .eq 25, 3) := by decide +kernel
theorem dX12_laysRanks_108 : decode cX12_laysRanks 108 = .ok (.aload_n 0, 1) := by decide +kernel
theorem dX12_laysRanks_109 : decode cX12_laysRanks 109 = .ok (.iload_n 1, 1) := by decide +kernel
theorem dX12_laysRanks_110 : decode cX12_laysRanks 110 = .ok (.iload_n 2, 1) := by decide +kernel
theorem dX12_laysRanks_111 : decode cX12_laysRanks 111 = .ok (.invokevirtual 272, 3) := by decide +kernel
theorem dX12_laysRanks_114 : decode cX12_laysRanks 114 = .ok (.ifCond .eq 16, 3) := by decide +kernel
theorem dX12_laysRanks_117 : decode cX12_laysRanks 117 = .ok (.aload_n 0, 1) := by decide +kernel
theorem dX12_laysRanks_118 : decode cX12_laysRanks 118 = .ok (.iload_n 2, 1) := by decide +kernel
theorem dX12_laysRanks_119 : decode cX12_laysRanks 119 = .ok (.iload_n 1, 1) := by decide +kernel
theorem dX12_laysRanks_120 : decode cX12_laysRanks 120 = .ok (.invokevirtual 311, 3) := by decide +kernel
theorem dX12_laysRanks_123 : decode cX12_laysRanks 123 = .ok (.ifCond .eq 7, 3) := by decide +kernel
theorem dX12_laysRanks_126 : decode cX12_laysRanks 126 = .ok (.iconst 1, 1) := by decide +kernel
theorem dX12_laysRanks_127 : decode cX12_laysRanks 127 = .ok (.goto 4, 3) := by decide +kernel
theorem dX12_laysRanks_130 : decode cX12_laysRanks 130 = .ok (.iconst 0, 1) := by decide +kernel
theorem dX12_laysRanks_131 : decode cX12_laysRanks 131 = .ok (.invokestatic 235, 3) := by decide +kernel
theorem dX12_laysRanks_134 : decode cX12_laysRanks 134 = .ok (.iadd, 1) := by decide +kernel
theorem dX12_laysRanks_135 : decode cX12_laysRanks 135 = .ok (.iastore, 1) := by decide +kernel
theorem dX12_laysRanks_136 : decode cX12_laysRanks 136 = .ok (.iinc 2 1, 3) := by decide +kernel
theorem dX12_laysRanks_139 : decode cX12_laysRanks 139 = .ok (.goto (-51), 3) := by decide +kernel
theorem dX12_laysRanks_142 : decode cX12_laysRanks 142 = .ok (.iinc 1 1, 3) := by decide +kernel
theorem dX12_laysRanks_145 : decode cX12_laysRanks 145 = .ok (.goto (-74), 3) := by decide +kernel
theorem dX12_laysRanks_148 : decode cX12_laysRanks 148 = .ok (.return_, 1) := by decide +kernel
theorem dX12_isAhead_0 : decode cX12_isAhead 0 = .ok (.aload_n 0, 1) := by decide +kernel
theorem dX12_isAhead_1 : decode cX12_isAhead 1 = .ok (.getfield 48, 3) := by decide +kernel
theorem dX12_isAhead_4 : decode cX12_isAhead 4 = .ok (.iload_n 1, 1) := by decide +kernel
theorem dX12_isAhead_5 : decode cX12_isAhead 5 = .ok (.iaload, 1) := by decide +kernel
theorem dX12_isAhead_6 : decode cX12_isAhead 6 = .ok (.aload_n 0, 1) := by decide +kernel
theorem dX12_isAhead_7 : decode cX12_isAhead 7 = .ok (.getfield 48, 3) := by decide +kernel
theorem dX12_isAhead_10 : decode cX12_isAhead 10 = .ok (.iload_n 2, 1) := by decide +kernel
theorem dX12_isAhead_11 : decode cX12_isAhead 11 = .ok (.iaload, 1) := by decide +kernel
theorem dX12_isAhead_12 : decode cX12_isAhead 12 = .ok (.if_icmp .eq 24, 3) := by decide +kernel
theorem dX12_isAhead_15 : decode cX12_isAhead 15 = .ok (.aload_n 0, 1) := by decide +kernel
theorem dX12_isAhead_16 : decode cX12_isAhead 16 = .ok (.getfield 48, 3) := by decide +kernel
theorem dX12_isAhead_19 : decode cX12_isAhead 19 = .ok (.iload_n 1, 1) := by decide +kernel
theorem dX12_isAhead_20 : decode cX12_isAhead 20 = .ok (.iaload, 1) := by decide +kernel
theorem dX12_isAhead_21 : decode cX12_isAhead 21 = .ok (.aload_n 0, 1) := by decide +kernel
theorem dX12_isAhead_22 : decode cX12_isAhead 22 = .ok (.getfield 48, 3) := by decide +kernel
theorem dX12_isAhead_25 : decode cX12_isAhead 25 = .ok (.iload_n 2, 1) := by decide +kernel
theorem dX12_isAhead_26 : decode cX12_isAhead 26 = .ok (.iaload, 1) := by decide +kernel
theorem dX12_isAhead_27 : decode cX12_isAhead 27 = .ok (.if_icmp .le 7, 3) := by decide +kernel
theorem dX12_isAhead_30 : decode cX12_isAhead 30 = .ok (.iconst 1, 1) := by decide +kernel
theorem dX12_isAhead_31 : decode cX12_isAhead 31 = .ok (.goto 4, 3) := by decide +kernel
theorem dX12_isAhead_34 : decode cX12_isAhead 34 = .ok (.iconst 0, 1) := by decide +kernel
theorem dX12_isAhead_35 : decode cX12_isAhead 35 = .ok (.ireturn, 1) := by decide +kernel
theorem dX12_isAhead_36 : decode cX12_isAhead 36 = .ok (.aload_n 0, 1) := by decide +kernel
theorem dX12_isAhead_37 : decode cX12_isAhead 37 = .ok (.getfield 51, 3) := by decide +kernel
theorem dX12_isAhead_40 : decode cX12_isAhead 40 = .ok (.iload_n 1, 1) := by decide +kernel
theorem dX12_isAhead_41 : decode cX12_isAhead 41 = .ok (.iaload, 1) := by decide +kernel
theorem dX12_isAhead_42 : decode cX12_isAhead 42 = .ok (.aload_n 0, 1) := by decide +kernel
theorem dX12_isAhead_43 : decode cX12_isAhead 43 = .ok (.getfield 51, 3) := by decide +kernel
theorem dX12_isAhead_46 : decode cX12_isAhead 46 = .ok (.iload_n 2, 1) := by decide +kernel
theorem dX12_isAhead_47 : decode cX12_isAhead 47 = .ok (.iaload, 1) := by decide +kernel
theorem dX12_isAhead_48 : decode cX12_isAhead 48 = .ok (.if_icmp .eq 24, 3) := by decide +kernel
theorem dX12_isAhead_51 : decode cX12_isAhead 51 = .ok (.aload_n 0, 1) := by decide +kernel
theorem dX12_isAhead_52 : decode cX12_isAhead 52 = .ok (.getfield 51, 3) := by decide +kernel
theorem dX12_isAhead_55 : decode cX12_isAhead 55 = .ok (.iload_n 1, 1) := by decide +kernel
theorem dX12_isAhead_56 : decode cX12_isAhead 56 = .ok (.iaload, 1) := by decide +kernel
theorem dX12_isAhead_57 : decode cX12_isAhead 57 = .ok (.aload_n 0, 1) := by decide +kernel
theorem dX12_isAhead_58 : decode cX12_isAhead 58 = .ok (.getfield 51, 3) := by decide +kernel
theorem dX12_isAhead_61 : decode cX12_isAhead 61 = .ok (.iload_n 2, 1) := by decide +kernel
theorem dX12_isAhead_62 : decode cX12_isAhead 62 = .ok (.iaload, 1) := by decide +kernel
theorem dX12_isAhead_63 : decode cX12_isAhead 63 = .ok (.if_icmp .le 7, 3) := by decide +kernel
theorem dX12_isAhead_66 : decode cX12_isAhead 66 = .ok (.iconst 1, 1) := by decide +kernel
theorem dX12_isAhead_67 : decode cX12_isAhead 67 = .ok (.goto 4, 3) := by decide +kernel
theorem dX12_isAhead_70 : decode cX12_isAhead 70 = .ok (.iconst 0, 1) := by decide +kernel
theorem dX12_isAhead_71 : decode cX12_isAhead 71 = .ok (.ireturn, 1) := by decide +kernel
theorem dX12_isAhead_72 : decode cX12_isAhead 72 = .ok (.aload_n 0, 1) := by decide +kernel
theorem dX12_isAhead_73 : decode cX12_isAhead 73 = .ok (.getfield 54, 3) := by decide +kernel
theorem dX12_isAhead_76 : decode cX12_isAhead 76 = .ok (.iload_n 1, 1) := by decide +kernel
theorem dX12_isAhead_77 : decode cX12_isAhead 77 = .ok (.iaload, 1) := by decide +kernel
theorem dX12_isAhead_78 : decode cX12_isAhead 78 = .ok (.aload_n 0, 1) := by decide +kernel
theorem dX12_isAhead_79 : decode cX12_isAhead 79 = .ok (.getfield 54, 3) := by decide +kernel
theorem dX12_isAhead_82 : decode cX12_isAhead 82 = .ok (.iload_n 2, 1) := by decide +kernel
theorem dX12_isAhead_83 : decode cX12_isAhead 83 = .ok (.iaload, 1) := by decide +kernel
theorem dX12_isAhead_84 : decode cX12_isAhead 84 = .ok (.if_icmp .ne 16, 3) := by decide +kernel
theorem dX12_isAhead_87 : decode cX12_isAhead 87 = .ok (.iload_n 1, 1) := by decide +kernel
theorem dX12_isAhead_88 : decode cX12_isAhead 88 = .ok (.iload_n 2, 1) := by decide +kernel
theorem dX12_isAhead_89 : decode cX12_isAhead 89 = .ok (.if_icmp .ge 7, 3) := by decide +kernel
theorem dX12_isAhead_92 : decode cX12_isAhead 92 = .ok (.iconst 1, 1) := by decide +kernel
theorem dX12_isAhead_93 : decode cX12_isAhead 93 = .ok (.goto 27, 3) := by decide +kernel
theorem dX12_isAhead_96 : decode cX12_isAhead 96 = .ok (.iconst 0, 1) := by decide +kernel
theorem dX12_isAhead_97 : decode cX12_isAhead 97 = .ok (.goto 23, 3) := by decide +kernel
theorem dX12_isAhead_100 : decode cX12_isAhead 100 = .ok (.aload_n 0, 1) := by decide +kernel
theorem dX12_isAhead_101 : decode cX12_isAhead 101 = .ok (.getfield 54, 3) := by decide +kernel
theorem dX12_isAhead_104 : decode cX12_isAhead 104 = .ok (.iload_n 1, 1) := by decide +kernel
theorem dX12_isAhead_105 : decode cX12_isAhead 105 = .ok (.iaload, 1) := by decide +kernel
theorem dX12_isAhead_106 : decode cX12_isAhead 106 = .ok (.aload_n 0, 1) := by decide +kernel
theorem dX12_isAhead_107 : decode cX12_isAhead 107 = .ok (.getfield 54, 3) := by decide +kernel
theorem dX12_isAhead_110 : decode cX12_isAhead 110 = .ok (.iload_n 2, 1) := by decide +kernel
theorem dX12_isAhead_111 : decode cX12_isAhead 111 = .ok (.iaload, 1) := by decide +kernel
theorem dX12_isAhead_112 : decode cX12_isAhead 112 = .ok (.if_icmp .le 7, 3) := by decide +kernel
theorem dX12_isAhead_115 : decode cX12_isAhead 115 = .ok (.iconst 1, 1) := by decide +kernel
theorem dX12_isAhead_116 : decode cX12_isAhead 116 = .ok (.goto 4, 3) := by decide +kernel
theorem dX12_isAhead_119 : decode cX12_isAhead 119 = .ok (.iconst 0, 1) := by decide +kernel
theorem dX12_isAhead_120 : decode cX12_isAhead 120 = .ok (.ireturn, 1) := by decide +kernel
theorem dX12_isBefore_0 : decode cX12_isBefore 0 = .ok (.aload_n 0, 1) := by decide +kernel
theorem dX12_isBefore_1 : decode cX12_isBefore 1 = .ok (.getfield 57, 3) := by decide +kernel
theorem dX12_isBefore_4 : decode cX12_isBefore 4 = .ok (.iload_n 1, 1) := by decide +kernel
theorem dX12_isBefore_5 : decode cX12_isBefore 5 = .ok (.iaload, 1) := by decide +kernel
theorem dX12_isBefore_6 : decode cX12_isBefore 6 = .ok (.aload_n 0, 1) := by decide +kernel
theorem dX12_isBefore_7 : decode cX12_isBefore 7 = .ok (.getfield 57, 3) := by decide +kernel
theorem dX12_isBefore_10 : decode cX12_isBefore 10 = .ok (.iload_n 2, 1) := by decide +kernel
theorem dX12_isBefore_11 : decode cX12_isBefore 11 = .ok (.iaload, 1) := by decide +kernel
theorem dX12_isBefore_12 : decode cX12_isBefore 12 = .ok (.if_icmp .eq 24, 3) := by decide +kernel
theorem dX12_isBefore_15 : decode cX12_isBefore 15 = .ok (.aload_n 0, 1) := by decide +kernel
theorem dX12_isBefore_16 : decode cX12_isBefore 16 = .ok (.getfield 57, 3) := by decide +kernel
theorem dX12_isBefore_19 : decode cX12_isBefore 19 = .ok (.iload_n 1, 1) := by decide +kernel
theorem dX12_isBefore_20 : decode cX12_isBefore 20 = .ok (.iaload, 1) := by decide +kernel
theorem dX12_isBefore_21 : decode cX12_isBefore 21 = .ok (.aload_n 0, 1) := by decide +kernel
theorem dX12_isBefore_22 : decode cX12_isBefore 22 = .ok (.getfield 57, 3) := by decide +kernel
theorem dX12_isBefore_25 : decode cX12_isBefore 25 = .ok (.iload_n 2, 1) := by decide +kernel
theorem dX12_isBefore_26 : decode cX12_isBefore 26 = .ok (.iaload, 1) := by decide +kernel
theorem dX12_isBefore_27 : decode cX12_isBefore 27 = .ok (.if_icmp .ge 7, 3) := by decide +kernel
theorem dX12_isBefore_30 : decode cX12_isBefore 30 = .ok (.iconst 1, 1) := by decide +kernel
theorem dX12_isBefore_31 : decode cX12_isBefore 31 = .ok (.goto 4, 3) := by decide +kernel
theorem dX12_isBefore_34 : decode cX12_isBefore 34 = .ok (.iconst 0, 1) := by decide +kernel
theorem dX12_isBefore_35 : decode cX12_isBefore 35 = .ok (.ireturn, 1) := by decide +kernel
theorem dX12_isBefore_36 : decode cX12_isBefore 36 = .ok (.aload_n 0, 1) := by decide +kernel
theorem dX12_isBefore_37 : decode cX12_isBefore 37 = .ok (.getfield 60, 3) := by decide +kernel
theorem dX12_isBefore_40 : decode cX12_isBefore 40 = .ok (.iload_n 1, 1) := by decide +kernel
theorem dX12_isBefore_41 : decode cX12_isBefore 41 = .ok (.faload, 1) := by decide +kernel
theorem dX12_isBefore_42 : decode cX12_isBefore 42 = .ok (.aload_n 0, 1) := by decide +kernel
theorem dX12_isBefore_43 : decode cX12_isBefore 43 = .ok (.getfield 60, 3) := by decide +kernel
theorem dX12_isBefore_46 : decode cX12_isBefore 46 = .ok (.iload_n 2, 1) := by decide +kernel
theorem dX12_isBefore_47 : decode cX12_isBefore 47 = .ok (.faload, 1) := by decide +kernel
theorem dX12_isBefore_48 : decode cX12_isBefore 48 = .ok (.fcmp .l, 1) := by decide +kernel
theorem dX12_isBefore_49 : decode cX12_isBefore 49 = .ok (.ifCond .ne 16, 3) := by decide +kernel
theorem dX12_isBefore_52 : decode cX12_isBefore 52 = .ok (.iload_n 1, 1) := by decide +kernel
theorem dX12_isBefore_53 : decode cX12_isBefore 53 = .ok (.iload_n 2, 1) := by decide +kernel
theorem dX12_isBefore_54 : decode cX12_isBefore 54 = .ok (.if_icmp .ge 7, 3) := by decide +kernel
theorem dX12_isBefore_57 : decode cX12_isBefore 57 = .ok (.iconst 1, 1) := by decide +kernel
theorem dX12_isBefore_58 : decode cX12_isBefore 58 = .ok (.goto 28, 3) := by decide +kernel
theorem dX12_isBefore_61 : decode cX12_isBefore 61 = .ok (.iconst 0, 1) := by decide +kernel
theorem dX12_isBefore_62 : decode cX12_isBefore 62 = .ok (.goto 24, 3) := by decide +kernel
theorem dX12_isBefore_65 : decode cX12_isBefore 65 = .ok (.aload_n 0, 1) := by decide +kernel
theorem dX12_isBefore_66 : decode cX12_isBefore 66 = .ok (.getfield 60, 3) := by decide +kernel
theorem dX12_isBefore_69 : decode cX12_isBefore 69 = .ok (.iload_n 1, 1) := by decide +kernel
theorem dX12_isBefore_70 : decode cX12_isBefore 70 = .ok (.faload, 1) := by decide +kernel
theorem dX12_isBefore_71 : decode cX12_isBefore 71 = .ok (.aload_n 0, 1) := by decide +kernel
theorem dX12_isBefore_72 : decode cX12_isBefore 72 = .ok (.getfield 60, 3) := by decide +kernel
theorem dX12_isBefore_75 : decode cX12_isBefore 75 = .ok (.iload_n 2, 1) := by decide +kernel
theorem dX12_isBefore_76 : decode cX12_isBefore 76 = .ok (.faload, 1) := by decide +kernel
theorem dX12_isBefore_77 : decode cX12_isBefore 77 = .ok (.fcmp .l, 1) := by decide +kernel
theorem dX12_isBefore_78 : decode cX12_isBefore 78 = .ok (.ifCond .le 7, 3) := by decide +kernel
theorem dX12_isBefore_81 : decode cX12_isBefore 81 = .ok (.iconst 1, 1) := by decide +kernel
theorem dX12_isBefore_82 : decode cX12_isBefore 82 = .ok (.goto 4, 3) := by decide +kernel
theorem dX12_isBefore_85 : decode cX12_isBefore 85 = .ok (.iconst 0, 1) := by decide +kernel
theorem dX12_isBefore_86 : decode cX12_isBefore 86 = .ok (.ireturn, 1) := by decide +kernel
theorem dX12_laysOrders_0 : decode cX12_laysOrders 0 = .ok (.aload_n 0, 1) := by decide +kernel
theorem dX12_laysOrders_1 : decode cX12_laysOrders 1 = .ok (.invokevirtual 314, 3) := by decide +kernel
theorem dX12_laysOrders_4 : decode cX12_laysOrders 4 = .ok (.iconst 0, 1) := by decide +kernel
theorem dX12_laysOrders_5 : decode cX12_laysOrders 5 = .ok (.istore_n 1, 1) := by decide +kernel
theorem dX12_laysOrders_6 : decode cX12_laysOrders 6 = .ok (.iload_n 1, 1) := by decide +kernel
theorem dX12_laysOrders_7 : decode cX12_laysOrders 7 = .ok (.aload_n 0, 1) := by decide +kernel
theorem dX12_laysOrders_8 : decode cX12_laysOrders 8 = .ok (.getfield 260, 3) := by decide +kernel
theorem dX12_laysOrders_11 : decode cX12_laysOrders 11 = .ok (.if_icmp .ge 125, 3) := by decide +kernel
theorem dX12_laysOrders_14 : decode cX12_laysOrders 14 = .ok (.iconst 0, 1) := by decide +kernel
theorem dX12_laysOrders_15 : decode cX12_laysOrders 15 = .ok (.istore_n 2, 1) := by decide +kernel
theorem dX12_laysOrders_16 : decode cX12_laysOrders 16 = .ok (.iconst 0, 1) := by decide +kernel
theorem dX12_laysOrders_17 : decode cX12_laysOrders 17 = .ok (.istore_n 3, 1) := by decide +kernel
theorem dX12_laysOrders_18 : decode cX12_laysOrders 18 = .ok (.iload_n 3, 1) := by decide +kernel
theorem dX12_laysOrders_19 : decode cX12_laysOrders 19 = .ok (.aload_n 0, 1) := by decide +kernel
theorem dX12_laysOrders_20 : decode cX12_laysOrders 20 = .ok (.getfield 263, 3) := by decide +kernel
theorem dX12_laysOrders_23 : decode cX12_laysOrders 23 = .ok (.if_icmp .ge 100, 3) := by decide +kernel
theorem dX12_laysOrders_26 : decode cX12_laysOrders 26 = .ok (.aload_n 0, 1) := by decide +kernel
theorem dX12_laysOrders_27 : decode cX12_laysOrders 27 = .ok (.getfield 23, 3) := by decide +kernel
theorem dX12_laysOrders_30 : decode cX12_laysOrders 30 = .ok (.iload_n 3, 1) := by decide +kernel
theorem dX12_laysOrders_31 : decode cX12_laysOrders 31 = .ok (.iaload, 1) := by decide +kernel
theorem dX12_laysOrders_32 : decode cX12_laysOrders 32 = .ok (.iload_n 1, 1) := by decide +kernel
theorem dX12_laysOrders_33 : decode cX12_laysOrders 33 = .ok (.if_icmp .eq 6, 3) := by decide +kernel
theorem dX12_laysOrders_36 : decode cX12_laysOrders 36 = .ok (.goto 81, 3) := by decide +kernel
theorem dX12_laysOrders_39 : decode cX12_laysOrders 39 = .ok (.iload_n 2, 1) := by decide +kernel
theorem dX12_laysOrders_40 : decode cX12_laysOrders 40 = .ok (.istore 4, 2) := by decide +kernel
theorem dX12_laysOrders_42 : decode cX12_laysOrders 42 = .ok (.iload 4, 2) := by decide +kernel
theorem dX12_laysOrders_44 : decode cX12_laysOrders 44 = .ok (.ifCond .le 57, 3) := by decide +kernel
theorem dX12_laysOrders_47 : decode cX12_laysOrders 47 = .ok (.aload_n 0, 1) := by decide +kernel
theorem dX12_laysOrders_48 : decode cX12_laysOrders 48 = .ok (.iload_n 3, 1) := by decide +kernel
theorem dX12_laysOrders_49 : decode cX12_laysOrders 49 = .ok (.aload_n 0, 1) := by decide +kernel
theorem dX12_laysOrders_50 : decode cX12_laysOrders 50 = .ok (.getfield 64, 3) := by decide +kernel
theorem dX12_laysOrders_53 : decode cX12_laysOrders 53 = .ok (.bipush 12, 2) := by decide +kernel
theorem dX12_laysOrders_55 : decode cX12_laysOrders 55 = .ok (.iload_n 1, 1) := by decide +kernel
theorem dX12_laysOrders_56 : decode cX12_laysOrders 56 = .ok (.imul, 1) := by decide +kernel
theorem dX12_laysOrders_57 : decode cX12_laysOrders 57 = .ok (.iload 4, 2) := by decide +kernel
theorem dX12_laysOrders_59 : decode cX12_laysOrders 59 = .ok (.iadd, 1) := by decide +kernel
theorem dX12_laysOrders_60 : decode cX12_laysOrders 60 = .ok (.iconst 1, 1) := by decide +kernel
theorem dX12_laysOrders_61 : decode cX12_laysOrders 61 = .ok (.isub, 1) := by decide +kernel
theorem dX12_laysOrders_62 : decode cX12_laysOrders 62 = .ok (.iaload, 1) := by decide +kernel
theorem dX12_laysOrders_63 : decode cX12_laysOrders 63 = .ok (.invokevirtual 317, 3) := by decide +kernel
theorem dX12_laysOrders_66 : decode cX12_laysOrders 66 = .ok (.ifCond .eq 35, 3) := by decide +kernel
theorem dX12_laysOrders_69 : decode cX12_laysOrders 69 = .ok (.aload_n 0, 1) := by decide +kernel
theorem dX12_laysOrders_70 : decode cX12_laysOrders 70 = .ok (.getfield 64, 3) := by decide +kernel
theorem dX12_laysOrders_73 : decode cX12_laysOrders 73 = .ok (.bipush 12, 2) := by decide +kernel
theorem dX12_laysOrders_75 : decode cX12_laysOrders 75 = .ok (.iload_n 1, 1) := by decide +kernel
theorem dX12_laysOrders_76 : decode cX12_laysOrders 76 = .ok (.imul, 1) := by decide +kernel
theorem dX12_laysOrders_77 : decode cX12_laysOrders 77 = .ok (.iload 4, 2) := by decide +kernel
theorem dX12_laysOrders_79 : decode cX12_laysOrders 79 = .ok (.iadd, 1) := by decide +kernel
theorem dX12_laysOrders_80 : decode cX12_laysOrders 80 = .ok (.aload_n 0, 1) := by decide +kernel
theorem dX12_laysOrders_81 : decode cX12_laysOrders 81 = .ok (.getfield 64, 3) := by decide +kernel
theorem dX12_laysOrders_84 : decode cX12_laysOrders 84 = .ok (.bipush 12, 2) := by decide +kernel
theorem dX12_laysOrders_86 : decode cX12_laysOrders 86 = .ok (.iload_n 1, 1) := by decide +kernel
theorem dX12_laysOrders_87 : decode cX12_laysOrders 87 = .ok (.imul, 1) := by decide +kernel
theorem dX12_laysOrders_88 : decode cX12_laysOrders 88 = .ok (.iload 4, 2) := by decide +kernel
theorem dX12_laysOrders_90 : decode cX12_laysOrders 90 = .ok (.iadd, 1) := by decide +kernel
theorem dX12_laysOrders_91 : decode cX12_laysOrders 91 = .ok (.iconst 1, 1) := by decide +kernel
theorem dX12_laysOrders_92 : decode cX12_laysOrders 92 = .ok (.isub, 1) := by decide +kernel
theorem dX12_laysOrders_93 : decode cX12_laysOrders 93 = .ok (.iaload, 1) := by decide +kernel
theorem dX12_laysOrders_94 : decode cX12_laysOrders 94 = .ok (.iastore, 1) := by decide +kernel
theorem dX12_laysOrders_95 : decode cX12_laysOrders 95 = .ok (.iinc 4 (-1), 3) := by decide +kernel
theorem dX12_laysOrders_98 : decode cX12_laysOrders 98 = .ok (.goto (-56), 3) := by decide +kernel
theorem dX12_laysOrders_101 : decode cX12_laysOrders 101 = .ok (.aload_n 0, 1) := by decide +kernel
theorem dX12_laysOrders_102 : decode cX12_laysOrders 102 = .ok (.getfield 64, 3) := by decide +kernel
theorem dX12_laysOrders_105 : decode cX12_laysOrders 105 = .ok (.bipush 12, 2) := by decide +kernel
theorem dX12_laysOrders_107 : decode cX12_laysOrders 107 = .ok (.iload_n 1, 1) := by decide +kernel
theorem dX12_laysOrders_108 : decode cX12_laysOrders 108 = .ok (.imul, 1) := by decide +kernel
theorem dX12_laysOrders_109 : decode cX12_laysOrders 109 = .ok (.iload 4, 2) := by decide +kernel
theorem dX12_laysOrders_111 : decode cX12_laysOrders 111 = .ok (.iadd, 1) := by decide +kernel
theorem dX12_laysOrders_112 : decode cX12_laysOrders 112 = .ok (.iload_n 3, 1) := by decide +kernel
theorem dX12_laysOrders_113 : decode cX12_laysOrders 113 = .ok (.iastore, 1) := by decide +kernel
theorem dX12_laysOrders_114 : decode cX12_laysOrders 114 = .ok (.iinc 2 1, 3) := by decide +kernel
theorem dX12_laysOrders_117 : decode cX12_laysOrders 117 = .ok (.iinc 3 1, 3) := by decide +kernel
theorem dX12_laysOrders_120 : decode cX12_laysOrders 120 = .ok (.goto (-102), 3) := by decide +kernel
theorem dX12_laysOrders_123 : decode cX12_laysOrders 123 = .ok (.aload_n 0, 1) := by decide +kernel
theorem dX12_laysOrders_124 : decode cX12_laysOrders 124 = .ok (.getfield 67, 3) := by decide +kernel
theorem dX12_laysOrders_127 : decode cX12_laysOrders 127 = .ok (.iload_n 1, 1) := by decide +kernel
theorem dX12_laysOrders_128 : decode cX12_laysOrders 128 = .ok (.iload_n 2, 1) := by decide +kernel
theorem dX12_laysOrders_129 : decode cX12_laysOrders 129 = .ok (.iastore, 1) := by decide +kernel
theorem dX12_laysOrders_130 : decode cX12_laysOrders 130 = .ok (.iinc 1 1, 3) := by decide +kernel
theorem dX12_laysOrders_133 : decode cX12_laysOrders 133 = .ok (.goto (-127), 3) := by decide +kernel
theorem dX12_laysOrders_136 : decode cX12_laysOrders 136 = .ok (.return_, 1) := by decide +kernel
theorem dX12_miles_0 : decode cX12_miles 0 = .ok (.aload_n 0, 1) := by decide +kernel
theorem dX12_miles_1 : decode cX12_miles 1 = .ok (.getfield 17, 3) := by decide +kernel
theorem dX12_miles_4 : decode cX12_miles 4 = .ok (.iload_n 1, 1) := by decide +kernel
theorem dX12_miles_5 : decode cX12_miles 5 = .ok (.iaload, 1) := by decide +kernel
theorem dX12_miles_6 : decode cX12_miles 6 = .ok (.aload_n 0, 1) := by decide +kernel
theorem dX12_miles_7 : decode cX12_miles 7 = .ok (.getfield 17, 3) := by decide +kernel
theorem dX12_miles_10 : decode cX12_miles 10 = .ok (.iload_n 2, 1) := by decide +kernel
theorem dX12_miles_11 : decode cX12_miles 11 = .ok (.iaload, 1) := by decide +kernel
theorem dX12_miles_12 : decode cX12_miles 12 = .ok (.isub, 1) := by decide +kernel
theorem dX12_miles_13 : decode cX12_miles 13 = .ok (.aload_n 0, 1) := by decide +kernel
theorem dX12_miles_14 : decode cX12_miles 14 = .ok (.getfield 17, 3) := by decide +kernel
theorem dX12_miles_17 : decode cX12_miles 17 = .ok (.iload_n 1, 1) := by decide +kernel
theorem dX12_miles_18 : decode cX12_miles 18 = .ok (.iaload, 1) := by decide +kernel
theorem dX12_miles_19 : decode cX12_miles 19 = .ok (.aload_n 0, 1) := by decide +kernel
theorem dX12_miles_20 : decode cX12_miles 20 = .ok (.getfield 17, 3) := by decide +kernel
theorem dX12_miles_23 : decode cX12_miles 23 = .ok (.iload_n 2, 1) := by decide +kernel
theorem dX12_miles_24 : decode cX12_miles 24 = .ok (.iaload, 1) := by decide +kernel
theorem dX12_miles_25 : decode cX12_miles 25 = .ok (.isub, 1) := by decide +kernel
theorem dX12_miles_26 : decode cX12_miles 26 = .ok (.imul, 1) := by decide +kernel
theorem dX12_miles_27 : decode cX12_miles 27 = .ok (.aload_n 0, 1) := by decide +kernel
theorem dX12_miles_28 : decode cX12_miles 28 = .ok (.getfield 20, 3) := by decide +kernel
theorem dX12_miles_31 : decode cX12_miles 31 = .ok (.iload_n 1, 1) := by decide +kernel
theorem dX12_miles_32 : decode cX12_miles 32 = .ok (.iaload, 1) := by decide +kernel
theorem dX12_miles_33 : decode cX12_miles 33 = .ok (.aload_n 0, 1) := by decide +kernel
theorem dX12_miles_34 : decode cX12_miles 34 = .ok (.getfield 20, 3) := by decide +kernel
theorem dX12_miles_37 : decode cX12_miles 37 = .ok (.iload_n 2, 1) := by decide +kernel
theorem dX12_miles_38 : decode cX12_miles 38 = .ok (.iaload, 1) := by decide +kernel
theorem dX12_miles_39 : decode cX12_miles 39 = .ok (.isub, 1) := by decide +kernel
theorem dX12_miles_40 : decode cX12_miles 40 = .ok (.aload_n 0, 1) := by decide +kernel
theorem dX12_miles_41 : decode cX12_miles 41 = .ok (.getfield 20, 3) := by decide +kernel
theorem dX12_miles_44 : decode cX12_miles 44 = .ok (.iload_n 1, 1) := by decide +kernel
theorem dX12_miles_45 : decode cX12_miles 45 = .ok (.iaload, 1) := by decide +kernel
theorem dX12_miles_46 : decode cX12_miles 46 = .ok (.aload_n 0, 1) := by decide +kernel
theorem dX12_miles_47 : decode cX12_miles 47 = .ok (.getfield 20, 3) := by decide +kernel
theorem dX12_miles_50 : decode cX12_miles 50 = .ok (.iload_n 2, 1) := by decide +kernel
theorem dX12_miles_51 : decode cX12_miles 51 = .ok (.iaload, 1) := by decide +kernel
theorem dX12_miles_52 : decode cX12_miles 52 = .ok (.isub, 1) := by decide +kernel
theorem dX12_miles_53 : decode cX12_miles 53 = .ok (.imul, 1) := by decide +kernel
theorem dX12_miles_54 : decode cX12_miles 54 = .ok (.iadd, 1) := by decide +kernel
theorem dX12_miles_55 : decode cX12_miles 55 = .ok (.istore_n 3, 1) := by decide +kernel
theorem dX12_miles_56 : decode cX12_miles 56 = .ok (.iconst 0, 1) := by decide +kernel
theorem dX12_miles_57 : decode cX12_miles 57 = .ok (.istore 4, 2) := by decide +kernel
theorem dX12_miles_59 : decode cX12_miles 59 = .ok (.iload 4, 2) := by decide +kernel
theorem dX12_miles_61 : decode cX12_miles 61 = .ok (.iconst 1, 1) := by decide +kernel
theorem dX12_miles_62 : decode cX12_miles 62 = .ok (.iadd, 1) := by decide +kernel
theorem dX12_miles_63 : decode cX12_miles 63 = .ok (.iload 4, 2) := by decide +kernel
theorem dX12_miles_65 : decode cX12_miles 65 = .ok (.iconst 1, 1) := by decide +kernel
theorem dX12_miles_66 : decode cX12_miles 66 = .ok (.iadd, 1) := by decide +kernel
theorem dX12_miles_67 : decode cX12_miles 67 = .ok (.imul, 1) := by decide +kernel
theorem dX12_miles_68 : decode cX12_miles 68 = .ok (.iload_n 3, 1) := by decide +kernel
theorem dX12_miles_69 : decode cX12_miles 69 = .ok (.if_icmp .gt 9, 3) := by decide +kernel
theorem dX12_miles_72 : decode cX12_miles 72 = .ok (.iinc 4 1, 3) := by decide +kernel
theorem dX12_miles_75 : decode cX12_miles 75 = .ok (.goto (-16), 3) := by decide +kernel
theorem dX12_miles_78 : decode cX12_miles 78 = .ok (.iload 4, 2) := by decide +kernel
theorem dX12_miles_80 : decode cX12_miles 80 = .ok (.ireturn, 1) := by decide +kernel
theorem dX12_milesIn_0 : decode cX12_milesIn 0 = .ok (.iconst 0, 1) := by decide +kernel
theorem dX12_milesIn_1 : decode cX12_milesIn 1 = .ok (.istore 4, 2) := by decide +kernel
theorem dX12_milesIn_3 : decode cX12_milesIn 3 = .ok (.iconst 0, 1) := by decide +kernel
theorem dX12_milesIn_4 : decode cX12_milesIn 4 = .ok (.istore 5, 2) := by decide +kernel
theorem dX12_milesIn_6 : decode cX12_milesIn 6 = .ok (.iload 5, 2) := by decide +kernel
theorem dX12_milesIn_8 : decode cX12_milesIn 8 = .ok (.aload_n 0, 1) := by decide +kernel
theorem dX12_milesIn_9 : decode cX12_milesIn 9 = .ok (.getfield 263, 3) := by decide +kernel
theorem dX12_milesIn_12 : decode cX12_milesIn 12 = .ok (.if_icmp .ge 47, 3) := by decide +kernel
theorem dX12_milesIn_15 : decode cX12_milesIn 15 = .ok (.iload 4, 2) := by decide +kernel
theorem dX12_milesIn_17 : decode cX12_milesIn 17 = .ok (.aload_n 0, 1) := by decide +kernel
theorem dX12_milesIn_18 : decode cX12_milesIn 18 = .ok (.getfield 23, 3) := by decide +kernel
theorem dX12_milesIn_21 : decode cX12_milesIn 21 = .ok (.iload 5, 2) := by decide +kernel
theorem dX12_milesIn_23 : decode cX12_milesIn 23 = .ok (.iaload, 1) := by decide +kernel
theorem dX12_milesIn_24 : decode cX12_milesIn 24 = .ok (.iload_n 2, 1) := by decide +kernel
theorem dX12_milesIn_25 : decode cX12_milesIn 25 = .ok (.if_icmp .ne 24, 3) := by decide +kernel
theorem dX12_milesIn_28 : decode cX12_milesIn 28 = .ok (.aload_n 0, 1) := by decide +kernel
theorem dX12_milesIn_29 : decode cX12_milesIn 29 = .ok (.getfield 26, 3) := by decide +kernel
theorem dX12_milesIn_32 : decode cX12_milesIn 32 = .ok (.iload 5, 2) := by decide +kernel
theorem dX12_milesIn_34 : decode cX12_milesIn 34 = .ok (.iaload, 1) := by decide +kernel
theorem dX12_milesIn_35 : decode cX12_milesIn 35 = .ok (.iload_n 3, 1) := by decide +kernel
theorem dX12_milesIn_36 : decode cX12_milesIn 36 = .ok (.if_icmp .ne 13, 3) := by decide +kernel
theorem dX12_milesIn_39 : decode cX12_milesIn 39 = .ok (.aload_n 0, 1) := by decide +kernel
theorem dX12_milesIn_40 : decode cX12_milesIn 40 = .ok (.iload_n 1, 1) := by decide +kernel
theorem dX12_milesIn_41 : decode cX12_milesIn 41 = .ok (.iload 5, 2) := by decide +kernel
theorem dX12_milesIn_43 : decode cX12_milesIn 43 = .ok (.invokevirtual 320, 3) := by decide +kernel
theorem dX12_milesIn_46 : decode cX12_milesIn 46 = .ok (.goto 4, 3) := by decide +kernel
theorem dX12_milesIn_49 : decode cX12_milesIn 49 = .ok (.iconst 0, 1) := by decide +kernel
theorem dX12_milesIn_50 : decode cX12_milesIn 50 = .ok (.iadd, 1) := by decide +kernel
theorem dX12_milesIn_51 : decode cX12_milesIn 51 = .ok (.istore 4, 2) := by decide +kernel
theorem dX12_milesIn_53 : decode cX12_milesIn 53 = .ok (.iinc 5 1, 3) := by decide +kernel
theorem dX12_milesIn_56 : decode cX12_milesIn 56 = .ok (.goto (-50), 3) := by decide +kernel
theorem dX12_milesIn_59 : decode cX12_milesIn 59 = .ok (.iload 4, 2) := by decide +kernel
theorem dX12_milesIn_61 : decode cX12_milesIn 61 = .ok (.ireturn, 1) := by decide +kernel
theorem dX12_milesOf_0 : decode cX12_milesOf 0 = .ok (.iconst 0, 1) := by decide +kernel
theorem dX12_milesOf_1 : decode cX12_milesOf 1 = .ok (.istore_n 3, 1) := by decide +kernel
theorem dX12_milesOf_2 : decode cX12_milesOf 2 = .ok (.iconst 0, 1) := by decide +kernel
theorem dX12_milesOf_3 : decode cX12_milesOf 3 = .ok (.istore 4, 2) := by decide +kernel
theorem dX12_milesOf_5 : decode cX12_milesOf 5 = .ok (.iload 4, 2) := by decide +kernel
theorem dX12_milesOf_7 : decode cX12_milesOf 7 = .ok (.aload_n 0, 1) := by decide +kernel
theorem dX12_milesOf_8 : decode cX12_milesOf 8 = .ok (.getfield 263, 3) := by decide +kernel
theorem dX12_milesOf_11 : decode cX12_milesOf 11 = .ok (.if_icmp .ge 46, 3) := by decide +kernel
theorem dX12_milesOf_14 : decode cX12_milesOf 14 = .ok (.iload_n 3, 1) := by decide +kernel
theorem dX12_milesOf_15 : decode cX12_milesOf 15 = .ok (.aload_n 0, 1) := by decide +kernel
theorem dX12_milesOf_16 : decode cX12_milesOf 16 = .ok (.getfield 23, 3) := by decide +kernel
theorem dX12_milesOf_19 : decode cX12_milesOf 19 = .ok (.iload 4, 2) := by decide +kernel
theorem dX12_milesOf_21 : decode cX12_milesOf 21 = .ok (.iaload, 1) := by decide +kernel
theorem dX12_milesOf_22 : decode cX12_milesOf 22 = .ok (.iload_n 1, 1) := by decide +kernel
theorem dX12_milesOf_23 : decode cX12_milesOf 23 = .ok (.if_icmp .ne 25, 3) := by decide +kernel
theorem dX12_milesOf_26 : decode cX12_milesOf 26 = .ok (.aload_n 0, 1) := by decide +kernel
theorem dX12_milesOf_27 : decode cX12_milesOf 27 = .ok (.getfield 26, 3) := by decide +kernel
theorem dX12_milesOf_30 : decode cX12_milesOf 30 = .ok (.iload 4, 2) := by decide +kernel
theorem dX12_milesOf_32 : decode cX12_milesOf 32 = .ok (.iaload, 1) := by decide +kernel
theorem dX12_milesOf_33 : decode cX12_milesOf 33 = .ok (.iload_n 2, 1) := by decide +kernel
theorem dX12_milesOf_34 : decode cX12_milesOf 34 = .ok (.if_icmp .ne 14, 3) := by decide +kernel
theorem dX12_milesOf_37 : decode cX12_milesOf 37 = .ok (.aload_n 0, 1) := by decide +kernel
theorem dX12_milesOf_38 : decode cX12_milesOf 38 = .ok (.iload 4, 2) := by decide +kernel
theorem dX12_milesOf_40 : decode cX12_milesOf 40 = .ok (.iload_n 1, 1) := by decide +kernel
theorem dX12_milesOf_41 : decode cX12_milesOf 41 = .ok (.iload_n 2, 1) := by decide +kernel
theorem dX12_milesOf_42 : decode cX12_milesOf 42 = .ok (.invokevirtual 323, 3) := by decide +kernel
theorem dX12_milesOf_45 : decode cX12_milesOf 45 = .ok (.goto 4, 3) := by decide +kernel
theorem dX12_milesOf_48 : decode cX12_milesOf 48 = .ok (.iconst 0, 1) := by decide +kernel
theorem dX12_milesOf_49 : decode cX12_milesOf 49 = .ok (.iadd, 1) := by decide +kernel
theorem dX12_milesOf_50 : decode cX12_milesOf 50 = .ok (.istore_n 3, 1) := by decide +kernel
theorem dX12_milesOf_51 : decode cX12_milesOf 51 = .ok (.iinc 4 1, 3) := by decide +kernel
theorem dX12_milesOf_54 : decode cX12_milesOf 54 = .ok (.goto (-49), 3) := by decide +kernel
theorem dX12_milesOf_57 : decode cX12_milesOf 57 = .ok (.iload_n 3, 1) := by decide +kernel
theorem dX12_milesOf_58 : decode cX12_milesOf 58 = .ok (.iconst 2, 1) := by decide +kernel
theorem dX12_milesOf_59 : decode cX12_milesOf 59 = .ok (.idiv, 1) := by decide +kernel
theorem dX12_milesOf_60 : decode cX12_milesOf 60 = .ok (.ireturn, 1) := by decide +kernel
theorem dX12_laysParts_0 : decode cX12_laysParts 0 = .ok (.aload_n 0, 1) := by decide +kernel
theorem dX12_laysParts_1 : decode cX12_laysParts 1 = .ok (.iconst 0, 1) := by decide +kernel
theorem dX12_laysParts_2 : decode cX12_laysParts 2 = .ok (.putfield 326, 3) := by decide +kernel
theorem dX12_laysParts_5 : decode cX12_laysParts 5 = .ok (.iconst 0, 1) := by decide +kernel
theorem dX12_laysParts_6 : decode cX12_laysParts 6 = .ok (.istore_n 2, 1) := by decide +kernel
theorem dX12_laysParts_7 : decode cX12_laysParts 7 = .ok (.iload_n 2, 1) := by decide +kernel
theorem dX12_laysParts_8 : decode cX12_laysParts 8 = .ok (.aload_n 0, 1) := by decide +kernel
theorem dX12_laysParts_9 : decode cX12_laysParts 9 = .ok (.getfield 263, 3) := by decide +kernel
theorem dX12_laysParts_12 : decode cX12_laysParts 12 = .ok (.if_icmp .ge 42, 3) := by decide +kernel
theorem dX12_laysParts_15 : decode cX12_laysParts 15 = .ok (.aload_n 0, 1) := by decide +kernel
theorem dX12_laysParts_16 : decode cX12_laysParts 16 = .ok (.getfield 23, 3) := by decide +kernel
theorem dX12_laysParts_19 : decode cX12_laysParts 19 = .ok (.iload_n 2, 1) := by decide +kernel
theorem dX12_laysParts_20 : decode cX12_laysParts 20 = .ok (.iaload, 1) := by decide +kernel
theorem dX12_laysParts_21 : decode cX12_laysParts 21 = .ok (.iload_n 1, 1) := by decide +kernel
theorem dX12_laysParts_22 : decode cX12_laysParts 22 = .ok (.if_icmp .eq 6, 3) := by decide +kernel
theorem dX12_laysParts_25 : decode cX12_laysParts 25 = .ok (.goto 23, 3) := by decide +kernel
theorem dX12_laysParts_28 : decode cX12_laysParts 28 = .ok (.aload_n 0, 1) := by decide +kernel
theorem dX12_laysParts_29 : decode cX12_laysParts 29 = .ok (.getfield 70, 3) := by decide +kernel
theorem dX12_laysParts_32 : decode cX12_laysParts 32 = .ok (.aload_n 0, 1) := by decide +kernel
theorem dX12_laysParts_33 : decode cX12_laysParts 33 = .ok (.getfield 326, 3) := by decide +kernel
theorem dX12_laysParts_36 : decode cX12_laysParts 36 = .ok (.iload_n 2, 1) := by decide +kernel
theorem dX12_laysParts_37 : decode cX12_laysParts 37 = .ok (.iastore, 1) := by decide +kernel
theorem dX12_laysParts_38 : decode cX12_laysParts 38 = .ok (.aload_n 0, 1) := by decide +kernel
theorem dX12_laysParts_39 : decode cX12_laysParts 39 = .ok (.dup, 1) := by decide +kernel
theorem dX12_laysParts_40 : decode cX12_laysParts 40 = .ok (.getfield 326, 3) := by decide +kernel
theorem dX12_laysParts_43 : decode cX12_laysParts 43 = .ok (.iconst 1, 1) := by decide +kernel
theorem dX12_laysParts_44 : decode cX12_laysParts 44 = .ok (.iadd, 1) := by decide +kernel
theorem dX12_laysParts_45 : decode cX12_laysParts 45 = .ok (.putfield 326, 3) := by decide +kernel
theorem dX12_laysParts_48 : decode cX12_laysParts 48 = .ok (.iinc 2 1, 3) := by decide +kernel
theorem dX12_laysParts_51 : decode cX12_laysParts 51 = .ok (.goto (-44), 3) := by decide +kernel
theorem dX12_laysParts_54 : decode cX12_laysParts 54 = .ok (.aload_n 0, 1) := by decide +kernel
theorem dX12_laysParts_55 : decode cX12_laysParts 55 = .ok (.aload_n 0, 1) := by decide +kernel
theorem dX12_laysParts_56 : decode cX12_laysParts 56 = .ok (.getfield 7, 3) := by decide +kernel
theorem dX12_laysParts_59 : decode cX12_laysParts 59 = .ok (.iconst 4, 1) := by decide +kernel
theorem dX12_laysParts_60 : decode cX12_laysParts 60 = .ok (.iload_n 1, 1) := by decide +kernel
theorem dX12_laysParts_61 : decode cX12_laysParts 61 = .ok (.imul, 1) := by decide +kernel
theorem dX12_laysParts_62 : decode cX12_laysParts 62 = .ok (.iconst 1, 1) := by decide +kernel
theorem dX12_laysParts_63 : decode cX12_laysParts 63 = .ok (.iadd, 1) := by decide +kernel
theorem dX12_laysParts_64 : decode cX12_laysParts 64 = .ok (.iaload, 1) := by decide +kernel
theorem dX12_laysParts_65 : decode cX12_laysParts 65 = .ok (.putfield 329, 3) := by decide +kernel
theorem dX12_laysParts_68 : decode cX12_laysParts 68 = .ok (.iconst 0, 1) := by decide +kernel
theorem dX12_laysParts_69 : decode cX12_laysParts 69 = .ok (.istore_n 2, 1) := by decide +kernel
theorem dX12_laysParts_70 : decode cX12_laysParts 70 = .ok (.iload_n 2, 1) := by decide +kernel
theorem dX12_laysParts_71 : decode cX12_laysParts 71 = .ok (.aload_n 0, 1) := by decide +kernel
theorem dX12_laysParts_72 : decode cX12_laysParts 72 = .ok (.getfield 326, 3) := by decide +kernel
theorem dX12_laysParts_75 : decode cX12_laysParts 75 = .ok (.if_icmp .ge 52, 3) := by decide +kernel
theorem dX12_laysParts_78 : decode cX12_laysParts 78 = .ok (.iconst 0, 1) := by decide +kernel
theorem dX12_laysParts_79 : decode cX12_laysParts 79 = .ok (.istore_n 3, 1) := by decide +kernel
theorem dX12_laysParts_80 : decode cX12_laysParts 80 = .ok (.iload_n 3, 1) := by decide +kernel
theorem dX12_laysParts_81 : decode cX12_laysParts 81 = .ok (.aload_n 0, 1) := by decide +kernel
theorem dX12_laysParts_82 : decode cX12_laysParts 82 = .ok (.getfield 326, 3) := by decide +kernel
theorem dX12_laysParts_85 : decode cX12_laysParts 85 = .ok (.if_icmp .ge 36, 3) := by decide +kernel
theorem dX12_laysParts_88 : decode cX12_laysParts 88 = .ok (.aload_n 0, 1) := by decide +kernel
theorem dX12_laysParts_89 : decode cX12_laysParts 89 = .ok (.getfield 73, 3) := by decide +kernel
theorem dX12_laysParts_92 : decode cX12_laysParts 92 = .ok (.bipush 12, 2) := by decide +kernel
theorem dX12_laysParts_94 : decode cX12_laysParts 94 = .ok (.iload_n 2, 1) := by decide +kernel
theorem dX12_laysParts_95 : decode cX12_laysParts 95 = .ok (.imul, 1) := by decide +kernel
theorem dX12_laysParts_96 : decode cX12_laysParts 96 = .ok (.iload_n 3, 1) := by decide +kernel
theorem dX12_laysParts_97 : decode cX12_laysParts 97 = .ok (.iadd, 1) := by decide +kernel
theorem dX12_laysParts_98 : decode cX12_laysParts 98 = .ok (.aload_n 0, 1) := by decide +kernel
theorem dX12_laysParts_99 : decode cX12_laysParts 99 = .ok (.aload_n 0, 1) := by decide +kernel
theorem dX12_laysParts_100 : decode cX12_laysParts 100 = .ok (.getfield 70, 3) := by decide +kernel
theorem dX12_laysParts_103 : decode cX12_laysParts 103 = .ok (.iload_n 2, 1) := by decide +kernel
theorem dX12_laysParts_104 : decode cX12_laysParts 104 = .ok (.iaload, 1) := by decide +kernel
theorem dX12_laysParts_105 : decode cX12_laysParts 105 = .ok (.aload_n 0, 1) := by decide +kernel
theorem dX12_laysParts_106 : decode cX12_laysParts 106 = .ok (.getfield 70, 3) := by decide +kernel
theorem dX12_laysParts_109 : decode cX12_laysParts 109 = .ok (.iload_n 3, 1) := by decide +kernel
theorem dX12_laysParts_110 : decode cX12_laysParts 110 = .ok (.iaload, 1) := by decide +kernel
theorem dX12_laysParts_111 : decode cX12_laysParts 111 = .ok (.invokevirtual 320, 3) := by decide +kernel
theorem dX12_laysParts_114 : decode cX12_laysParts 114 = .ok (.iastore, 1) := by decide +kernel
theorem dX12_laysParts_115 : decode cX12_laysParts 115 = .ok (.iinc 3 1, 3) := by decide +kernel
theorem dX12_laysParts_118 : decode cX12_laysParts 118 = .ok (.goto (-38), 3) := by decide +kernel
theorem dX12_laysParts_121 : decode cX12_laysParts 121 = .ok (.iinc 2 1, 3) := by decide +kernel
theorem dX12_laysParts_124 : decode cX12_laysParts 124 = .ok (.goto (-54), 3) := by decide +kernel
theorem dX12_laysParts_127 : decode cX12_laysParts 127 = .ok (.iconst 0, 1) := by decide +kernel
theorem dX12_laysParts_128 : decode cX12_laysParts 128 = .ok (.istore_n 2, 1) := by decide +kernel
theorem dX12_laysParts_129 : decode cX12_laysParts 129 = .ok (.iload_n 2, 1) := by decide +kernel
theorem dX12_laysParts_130 : decode cX12_laysParts 130 = .ok (.aload_n 0, 1) := by decide +kernel
theorem dX12_laysParts_131 : decode cX12_laysParts 131 = .ok (.getfield 326, 3) := by decide +kernel
theorem dX12_laysParts_134 : decode cX12_laysParts 134 = .ok (.if_icmp .ge 16, 3) := by decide +kernel
theorem dX12_laysParts_137 : decode cX12_laysParts 137 = .ok (.aload_n 0, 1) := by decide +kernel
theorem dX12_laysParts_138 : decode cX12_laysParts 138 = .ok (.getfield 76, 3) := by decide +kernel
theorem dX12_laysParts_141 : decode cX12_laysParts 141 = .ok (.iload_n 2, 1) := by decide +kernel
theorem dX12_laysParts_142 : decode cX12_laysParts 142 = .ok (.iconst (-1), 1) := by decide +kernel
theorem dX12_laysParts_143 : decode cX12_laysParts 143 = .ok (.iastore, 1) := by decide +kernel
theorem dX12_laysParts_144 : decode cX12_laysParts 144 = .ok (.iinc 2 1, 3) := by decide +kernel
theorem dX12_laysParts_147 : decode cX12_laysParts 147 = .ok (.goto (-18), 3) := by decide +kernel
theorem dX12_laysParts_150 : decode cX12_laysParts 150 = .ok (.aload_n 0, 1) := by decide +kernel
theorem dX12_laysParts_151 : decode cX12_laysParts 151 = .ok (.iconst (-1), 1) := by decide +kernel
theorem dX12_laysParts_152 : decode cX12_laysParts 152 = .ok (.putfield 332, 3) := by decide +kernel
theorem dX12_laysParts_155 : decode cX12_laysParts 155 = .ok (.aload_n 0, 1) := by decide +kernel
theorem dX12_laysParts_156 : decode cX12_laysParts 156 = .ok (.iconst 0, 1) := by decide +kernel
theorem dX12_laysParts_157 : decode cX12_laysParts 157 = .ok (.iconst 0, 1) := by decide +kernel
theorem dX12_laysParts_158 : decode cX12_laysParts 158 = .ok (.iconst 0, 1) := by decide +kernel
theorem dX12_laysParts_159 : decode cX12_laysParts 159 = .ok (.iconst 0, 1) := by decide +kernel
theorem dX12_laysParts_160 : decode cX12_laysParts 160 = .ok (.invokevirtual 335, 3) := by decide +kernel
theorem dX12_laysParts_163 : decode cX12_laysParts 163 = .ok (.return_, 1) := by decide +kernel
theorem dX12_fills_0 : decode cX12_fills 0 = .ok (.aload_n 0, 1) := by decide +kernel
theorem dX12_fills_1 : decode cX12_fills 1 = .ok (.getfield 332, 3) := by decide +kernel
theorem dX12_fills_4 : decode cX12_fills 4 = .ok (.iconst (-1), 1) := by decide +kernel
theorem dX12_fills_5 : decode cX12_fills 5 = .ok (.if_icmp .eq 13, 3) := by decide +kernel
theorem dX12_fills_8 : decode cX12_fills 8 = .ok (.iload 4, 2) := by decide +kernel
theorem dX12_fills_10 : decode cX12_fills 10 = .ok (.aload_n 0, 1) := by decide +kernel
theorem dX12_fills_11 : decode cX12_fills 11 = .ok (.getfield 332, 3) := by decide +kernel
theorem dX12_fills_14 : decode cX12_fills 14 = .ok (.if_icmp .lt 4, 3) := by decide +kernel
theorem dX12_fills_17 : decode cX12_fills 17 = .ok (.return_, 1) := by decide +kernel
theorem dX12_fills_18 : decode cX12_fills 18 = .ok (.iload_n 1, 1) := by decide +kernel
theorem dX12_fills_19 : decode cX12_fills 19 = .ok (.aload_n 0, 1) := by decide +kernel
theorem dX12_fills_20 : decode cX12_fills 20 = .ok (.getfield 329, 3) := by decide +kernel
theorem dX12_fills_23 : decode cX12_fills 23 = .ok (.imul, 1) := by decide +kernel
theorem dX12_fills_24 : decode cX12_fills 24 = .ok (.aload_n 0, 1) := by decide +kernel
theorem dX12_fills_25 : decode cX12_fills 25 = .ok (.getfield 326, 3) := by decide +kernel
theorem dX12_fills_28 : decode cX12_fills 28 = .ok (.if_icmp .ne 42, 3) := by decide +kernel
theorem dX12_fills_31 : decode cX12_fills 31 = .ok (.aload_n 0, 1) := by decide +kernel
theorem dX12_fills_32 : decode cX12_fills 32 = .ok (.iload 4, 2) := by decide +kernel
theorem dX12_fills_34 : decode cX12_fills 34 = .ok (.putfield 332, 3) := by decide +kernel
theorem dX12_fills_37 : decode cX12_fills 37 = .ok (.iconst 0, 1) := by decide +kernel
theorem dX12_fills_38 : decode cX12_fills 38 = .ok (.istore 5, 2) := by decide +kernel
theorem dX12_fills_40 : decode cX12_fills 40 = .ok (.iload 5, 2) := by decide +kernel
theorem dX12_fills_42 : decode cX12_fills 42 = .ok (.aload_n 0, 1) := by decide +kernel
theorem dX12_fills_43 : decode cX12_fills 43 = .ok (.getfield 326, 3) := by decide +kernel
theorem dX12_fills_46 : decode cX12_fills 46 = .ok (.if_icmp .ge 23, 3) := by decide +kernel
theorem dX12_fills_49 : decode cX12_fills 49 = .ok (.aload_n 0, 1) := by decide +kernel
theorem dX12_fills_50 : decode cX12_fills 50 = .ok (.getfield 79, 3) := by decide +kernel
theorem dX12_fills_53 : decode cX12_fills 53 = .ok (.iload 5, 2) := by decide +kernel
theorem dX12_fills_55 : decode cX12_fills 55 = .ok (.aload_n 0, 1) := by decide +kernel
theorem dX12_fills_56 : decode cX12_fills 56 = .ok (.getfield 76, 3) := by decide +kernel
theorem dX12_fills_59 : decode cX12_fills 59 = .ok (.iload 5, 2) := by decide +kernel
theorem dX12_fills_61 : decode cX12_fills 61 = .ok (.iaload, 1) := by decide +kernel
theorem dX12_fills_62 : decode cX12_fills 62 = .ok (.iastore, 1) := by decide +kernel
theorem dX12_fills_63 : decode cX12_fills 63 = .ok (.iinc 5 1, 3) := by decide +kernel
theorem dX12_fills_66 : decode cX12_fills 66 = .ok (.goto (-26), 3) := by decide +kernel
theorem dX12_fills_69 : decode cX12_fills 69 = .ok (.return_, 1) := by decide +kernel
theorem dX12_fills_70 : decode cX12_fills 70 = .ok (.aload_n 0, 1) := by decide +kernel
theorem dX12_fills_71 : decode cX12_fills 71 = .ok (.getfield 326, 3) := by decide +kernel
theorem dX12_fills_74 : decode cX12_fills 74 = .ok (.istore 5, 2) := by decide +kernel
theorem dX12_fills_76 : decode cX12_fills 76 = .ok (.iload_n 3, 1) := by decide +kernel
theorem dX12_fills_77 : decode cX12_fills 77 = .ok (.istore 6, 2) := by decide +kernel
theorem dX12_fills_79 : decode cX12_fills 79 = .ok (.iload 6, 2) := by decide +kernel
theorem dX12_fills_81 : decode cX12_fills 81 = .ok (.iload 5, 2) := by decide +kernel
theorem dX12_fills_83 : decode cX12_fills 83 = .ok (.if_icmp .ge 145, 3) := by decide +kernel
theorem dX12_fills_86 : decode cX12_fills 86 = .ok (.aload_n 0, 1) := by decide +kernel
theorem dX12_fills_87 : decode cX12_fills 87 = .ok (.getfield 76, 3) := by decide +kernel
theorem dX12_fills_90 : decode cX12_fills 90 = .ok (.iload 6, 2) := by decide +kernel
theorem dX12_fills_92 : decode cX12_fills 92 = .ok (.iaload, 1) := by decide +kernel
theorem dX12_fills_93 : decode cX12_fills 93 = .ok (.iconst (-1), 1) := by decide +kernel
theorem dX12_fills_94 : decode cX12_fills 94 = .ok (.if_icmp .eq 6, 3) := by decide +kernel
theorem dX12_fills_97 : decode cX12_fills 97 = .ok (.goto 125, 3) := by decide +kernel
theorem dX12_fills_100 : decode cX12_fills 100 = .ok (.iload_n 2, 1) := by decide +kernel
theorem dX12_fills_101 : decode cX12_fills 101 = .ok (.ifCond .ne 7, 3) := by decide +kernel
theorem dX12_fills_104 : decode cX12_fills 104 = .ok (.iload 6, 2) := by decide +kernel
theorem dX12_fills_106 : decode cX12_fills 106 = .ok (.istore 5, 2) := by decide +kernel
theorem dX12_fills_108 : decode cX12_fills 108 = .ok (.iconst 0, 1) := by decide +kernel
theorem dX12_fills_109 : decode cX12_fills 109 = .ok (.istore 7, 2) := by decide +kernel
theorem dX12_fills_111 : decode cX12_fills 111 = .ok (.iconst 0, 1) := by decide +kernel
theorem dX12_fills_112 : decode cX12_fills 112 = .ok (.istore 8, 2) := by decide +kernel
theorem dX12_fills_114 : decode cX12_fills 114 = .ok (.iload 8, 2) := by decide +kernel
theorem dX12_fills_116 : decode cX12_fills 116 = .ok (.aload_n 0, 1) := by decide +kernel
theorem dX12_fills_117 : decode cX12_fills 117 = .ok (.getfield 326, 3) := by decide +kernel
theorem dX12_fills_120 : decode cX12_fills 120 = .ok (.if_icmp .ge 42, 3) := by decide +kernel
theorem dX12_fills_123 : decode cX12_fills 123 = .ok (.iload 7, 2) := by decide +kernel
theorem dX12_fills_125 : decode cX12_fills 125 = .ok (.aload_n 0, 1) := by decide +kernel
theorem dX12_fills_126 : decode cX12_fills 126 = .ok (.getfield 76, 3) := by decide +kernel
theorem dX12_fills_129 : decode cX12_fills 129 = .ok (.iload 8, 2) := by decide +kernel
theorem dX12_fills_131 : decode cX12_fills 131 = .ok (.iaload, 1) := by decide +kernel
theorem dX12_fills_132 : decode cX12_fills 132 = .ok (.iload_n 1, 1) := by decide +kernel
theorem dX12_fills_133 : decode cX12_fills 133 = .ok (.if_icmp .ne 19, 3) := by decide +kernel
theorem dX12_fills_136 : decode cX12_fills 136 = .ok (.aload_n 0, 1) := by decide +kernel
theorem dX12_fills_137 : decode cX12_fills 137 = .ok (.getfield 73, 3) := by decide +kernel
theorem dX12_fills_140 : decode cX12_fills 140 = .ok (.bipush 12, 2) := by decide +kernel
theorem dX12_fills_142 : decode cX12_fills 142 = .ok (.iload 6, 2) := by decide +kernel
theorem dX12_fills_144 : decode cX12_fills 144 = .ok (.imul, 1) := by decide +kernel
theorem dX12_fills_145 : decode cX12_fills 145 = .ok (.iload 8, 2) := by decide +kernel
theorem dX12_fills_147 : decode cX12_fills 147 = .ok (.iadd, 1) := by decide +kernel
theorem dX12_fills_148 : decode cX12_fills 148 = .ok (.iaload, 1) := by decide +kernel
theorem dX12_fills_149 : decode cX12_fills 149 = .ok (.goto 4, 3) := by decide +kernel
theorem dX12_fills_152 : decode cX12_fills 152 = .ok (.iconst 0, 1) := by decide +kernel
theorem dX12_fills_153 : decode cX12_fills 153 = .ok (.iadd, 1) := by decide +kernel
theorem dX12_fills_154 : decode cX12_fills 154 = .ok (.istore 7, 2) := by decide +kernel
theorem dX12_fills_156 : decode cX12_fills 156 = .ok (.iinc 8 1, 3) := by decide +kernel
theorem dX12_fills_159 : decode cX12_fills 159 = .ok (.goto (-45), 3) := by decide +kernel
theorem dX12_fills_162 : decode cX12_fills 162 = .ok (.aload_n 0, 1) := by decide +kernel
theorem dX12_fills_163 : decode cX12_fills 163 = .ok (.getfield 76, 3) := by decide +kernel
theorem dX12_fills_166 : decode cX12_fills 166 = .ok (.iload 6, 2) := by decide +kernel
theorem dX12_fills_168 : decode cX12_fills 168 = .ok (.iload_n 1, 1) := by decide +kernel
theorem dX12_fills_169 : decode cX12_fills 169 = .ok (.iastore, 1) := by decide +kernel
theorem dX12_fills_170 : decode cX12_fills 170 = .ok (.iload_n 2, 1) := by decide +kernel
theorem dX12_fills_171 : decode cX12_fills 171 = .ok (.iconst 1, 1) := by decide +kernel
theorem dX12_fills_172 : decode cX12_fills 172 = .ok (.iadd, 1) := by decide +kernel
theorem dX12_fills_173 : decode cX12_fills 173 = .ok (.aload_n 0, 1) := by decide +kernel
theorem dX12_fills_174 : decode cX12_fills 174 = .ok (.getfield 329, 3) := by decide +kernel
theorem dX12_fills_177 : decode cX12_fills 177 = .ok (.if_icmp .ne 20, 3) := by decide +kernel
theorem dX12_fills_180 : decode cX12_fills 180 = .ok (.aload_n 0, 1) := by decide +kernel
theorem dX12_fills_181 : decode cX12_fills 181 = .ok (.iload_n 1, 1) := by decide +kernel
theorem dX12_fills_182 : decode cX12_fills 182 = .ok (.iconst 1, 1) := by decide +kernel
theorem dX12_fills_183 : decode cX12_fills 183 = .ok (.iadd, 1) := by decide +kernel
theorem dX12_fills_184 : decode cX12_fills 184 = .ok (.iconst 0, 1) := by decide +kernel
theorem dX12_fills_185 : decode cX12_fills 185 = .ok (.iconst 0, 1) := by decide +kernel
theorem dX12_fills_186 : decode cX12_fills 186 = .ok (.iload 4, 2) := by decide +kernel
theorem dX12_fills_188 : decode cX12_fills 188 = .ok (.iload 7, 2) := by decide +kernel
theorem dX12_fills_190 : decode cX12_fills 190 = .ok (.iadd, 1) := by decide +kernel
theorem dX12_fills_191 : decode cX12_fills 191 = .ok (.invokevirtual 335, 3) := by decide +kernel
theorem dX12_fills_194 : decode cX12_fills 194 = .ok (.goto 20, 3) := by decide +kernel
theorem dX12_fills_197 : decode cX12_fills 197 = .ok (.aload_n 0, 1) := by decide +kernel
theorem dX12_fills_198 : decode cX12_fills 198 = .ok (.iload_n 1, 1) := by decide +kernel
theorem dX12_fills_199 : decode cX12_fills 199 = .ok (.iload_n 2, 1) := by decide +kernel
theorem dX12_fills_200 : decode cX12_fills 200 = .ok (.iconst 1, 1) := by decide +kernel
theorem dX12_fills_201 : decode cX12_fills 201 = .ok (.iadd, 1) := by decide +kernel
theorem dX12_fills_202 : decode cX12_fills 202 = .ok (.iload 6, 2) := by decide +kernel
theorem dX12_fills_204 : decode cX12_fills 204 = .ok (.iconst 1, 1) := by decide +kernel
theorem dX12_fills_205 : decode cX12_fills 205 = .ok (.iadd, 1) := by decide +kernel
theorem dX12_fills_206 : decode cX12_fills 206 = .ok (.iload 4, 2) := by decide +kernel
theorem dX12_fills_208 : decode cX12_fills 208 = .ok (.iload 7, 2) := by decide +kernel
theorem dX12_fills_210 : decode cX12_fills 210 = .ok (.iadd, 1) := by decide +kernel
theorem dX12_fills_211 : decode cX12_fills 211 = .ok (.invokevirtual 335, 3) := by decide +kernel
theorem dX12_fills_214 : decode cX12_fills 214 = .ok (.aload_n 0, 1) := by decide +kernel
theorem dX12_fills_215 : decode cX12_fills 215 = .ok (.getfield 76, 3) := by decide +kernel
theorem dX12_fills_218 : decode cX12_fills 218 = .ok (.iload 6, 2) := by decide +kernel
theorem dX12_fills_220 : decode cX12_fills 220 = .ok (.iconst (-1), 1) := by decide +kernel
theorem dX12_fills_221 : decode cX12_fills 221 = .ok (.iastore, 1) := by decide +kernel
theorem dX12_fills_222 : decode cX12_fills 222 = .ok (.iinc 6 1, 3) := by decide +kernel
theorem dX12_fills_225 : decode cX12_fills 225 = .ok (.goto (-146), 3) := by decide +kernel
theorem dX12_fills_228 : decode cX12_fills 228 = .ok (.return_, 1) := by decide +kernel
theorem dX12_may_0 : decode cX12_may 0 = .ok (.aload_n 0, 1) := by decide +kernel
theorem dX12_may_1 : decode cX12_may 1 = .ok (.getfield 23, 3) := by decide +kernel
theorem dX12_may_4 : decode cX12_may 4 = .ok (.iload_n 1, 1) := by decide +kernel
theorem dX12_may_5 : decode cX12_may 5 = .ok (.iaload, 1) := by decide +kernel
theorem dX12_may_6 : decode cX12_may 6 = .ok (.ifCond .le 59, 3) := by decide +kernel
theorem dX12_may_9 : decode cX12_may 9 = .ok (.aload_n 0, 1) := by decide +kernel
theorem dX12_may_10 : decode cX12_may 10 = .ok (.getfield 32, 3) := by decide +kernel
theorem dX12_may_13 : decode cX12_may 13 = .ok (.bipush 30, 2) := by decide +kernel
theorem dX12_may_15 : decode cX12_may 15 = .ok (.iload_n 1, 1) := by decide +kernel
theorem dX12_may_16 : decode cX12_may 16 = .ok (.iadd, 1) := by decide +kernel
theorem dX12_may_17 : decode cX12_may 17 = .ok (.iaload, 1) := by decide +kernel
theorem dX12_may_18 : decode cX12_may 18 = .ok (.ifCond .ne 47, 3) := by decide +kernel
theorem dX12_may_21 : decode cX12_may 21 = .ok (.aload_n 0, 1) := by decide +kernel
theorem dX12_may_22 : decode cX12_may 22 = .ok (.getfield 32, 3) := by decide +kernel
theorem dX12_may_25 : decode cX12_may 25 = .ok (.bipush 60, 2) := by decide +kernel
theorem dX12_may_27 : decode cX12_may 27 = .ok (.iload_n 1, 1) := by decide +kernel
theorem dX12_may_28 : decode cX12_may 28 = .ok (.iadd, 1) := by decide +kernel
theorem dX12_may_29 : decode cX12_may 29 = .ok (.iaload, 1) := by decide +kernel
theorem dX12_may_30 : decode cX12_may 30 = .ok (.ifCond .ne 35, 3) := by decide +kernel
theorem dX12_may_33 : decode cX12_may 33 = .ok (.aload_n 0, 1) := by decide +kernel
theorem dX12_may_34 : decode cX12_may 34 = .ok (.getfield 32, 3) := by decide +kernel
theorem dX12_may_37 : decode cX12_may 37 = .ok (.iconst 0, 1) := by decide +kernel
theorem dX12_may_38 : decode cX12_may 38 = .ok (.iload_n 1, 1) := by decide +kernel
theorem dX12_may_39 : decode cX12_may 39 = .ok (.iadd, 1) := by decide +kernel
theorem dX12_may_40 : decode cX12_may 40 = .ok (.iaload, 1) := by decide +kernel
theorem dX12_may_41 : decode cX12_may 41 = .ok (.aload_n 0, 1) := by decide +kernel
theorem dX12_may_42 : decode cX12_may 42 = .ok (.getfield 7, 3) := by decide +kernel
theorem dX12_may_45 : decode cX12_may 45 = .ok (.iconst 4, 1) := by decide +kernel
theorem dX12_may_46 : decode cX12_may 46 = .ok (.aload_n 0, 1) := by decide +kernel
theorem dX12_may_47 : decode cX12_may 47 = .ok (.getfield 23, 3) := by decide +kernel
theorem dX12_may_50 : decode cX12_may 50 = .ok (.iload_n 1, 1) := by decide +kernel
theorem dX12_may_51 : decode cX12_may 51 = .ok (.iaload, 1) := by decide +kernel
theorem dX12_may_52 : decode cX12_may 52 = .ok (.iconst 1, 1) := by decide +kernel
theorem dX12_may_53 : decode cX12_may 53 = .ok (.isub, 1) := by decide +kernel
theorem dX12_may_54 : decode cX12_may 54 = .ok (.imul, 1) := by decide +kernel
theorem dX12_may_55 : decode cX12_may 55 = .ok (.iconst 3, 1) := by decide +kernel
theorem dX12_may_56 : decode cX12_may 56 = .ok (.iadd, 1) := by decide +kernel
theorem dX12_may_57 : decode cX12_may 57 = .ok (.iaload, 1) := by decide +kernel
theorem dX12_may_58 : decode cX12_may 58 = .ok (.if_icmp .lt 7, 3) := by decide +kernel
theorem dX12_may_61 : decode cX12_may 61 = .ok (.iconst 1, 1) := by decide +kernel
theorem dX12_may_62 : decode cX12_may 62 = .ok (.goto 4, 3) := by decide +kernel
theorem dX12_may_65 : decode cX12_may 65 = .ok (.iconst 0, 1) := by decide +kernel
theorem dX12_may_66 : decode cX12_may 66 = .ok (.ireturn, 1) := by decide +kernel
theorem dX12_mayFrom_0 : decode cX12_mayFrom 0 = .ok (.iconst 0, 1) := by decide +kernel
theorem dX12_mayFrom_1 : decode cX12_mayFrom 1 = .ok (.istore_n 2, 1) := by decide +kernel
theorem dX12_mayFrom_2 : decode cX12_mayFrom 2 = .ok (.iconst 0, 1) := by decide +kernel
theorem dX12_mayFrom_3 : decode cX12_mayFrom 3 = .ok (.istore_n 3, 1) := by decide +kernel
theorem dX12_mayFrom_4 : decode cX12_mayFrom 4 = .ok (.iload_n 3, 1) := by decide +kernel
theorem dX12_mayFrom_5 : decode cX12_mayFrom 5 = .ok (.aload_n 0, 1) := by decide +kernel
theorem dX12_mayFrom_6 : decode cX12_mayFrom 6 = .ok (.getfield 263, 3) := by decide +kernel
theorem dX12_mayFrom_9 : decode cX12_mayFrom 9 = .ok (.if_icmp .ge 38, 3) := by decide +kernel
theorem dX12_mayFrom_12 : decode cX12_mayFrom 12 = .ok (.iload_n 2, 1) := by decide +kernel
theorem dX12_mayFrom_13 : decode cX12_mayFrom 13 = .ok (.aload_n 0, 1) := by decide +kernel
theorem dX12_mayFrom_14 : decode cX12_mayFrom 14 = .ok (.getfield 23, 3) := by decide +kernel
theorem dX12_mayFrom_17 : decode cX12_mayFrom 17 = .ok (.iload_n 3, 1) := by decide +kernel
theorem dX12_mayFrom_18 : decode cX12_mayFrom 18 = .ok (.iaload, 1) := by decide +kernel
theorem dX12_mayFrom_19 : decode cX12_mayFrom 19 = .ok (.iload_n 1, 1) := by decide +kernel
theorem dX12_mayFrom_20 : decode cX12_mayFrom 20 = .ok (.if_icmp .ne 15, 3) := by decide +kernel
theorem dX12_mayFrom_23 : decode cX12_mayFrom 23 = .ok (.aload_n 0, 1) := by decide +kernel
theorem dX12_mayFrom_24 : decode cX12_mayFrom 24 = .ok (.iload_n 3, 1) := by decide +kernel
theorem dX12_mayFrom_25 : decode cX12_mayFrom 25 = .ok (.invokevirtual 339, 3) := by decide +kernel
theorem dX12_mayFrom_28 : decode cX12_mayFrom 28 = .ok (.ifCond .eq 7, 3) := by decide +kernel
theorem dX12_mayFrom_31 : decode cX12_mayFrom 31 = .ok (.iconst 1, 1) := by decide +kernel
theorem dX12_mayFrom_32 : decode cX12_mayFrom 32 = .ok (.goto 4, 3) := by decide +kernel
theorem dX12_mayFrom_35 : decode cX12_mayFrom 35 = .ok (.iconst 0, 1) := by decide +kernel
theorem dX12_mayFrom_36 : decode cX12_mayFrom 36 = .ok (.invokestatic 235, 3) := by decide +kernel
theorem dX12_mayFrom_39 : decode cX12_mayFrom 39 = .ok (.iadd, 1) := by decide +kernel
theorem dX12_mayFrom_40 : decode cX12_mayFrom 40 = .ok (.istore_n 2, 1) := by decide +kernel
theorem dX12_mayFrom_41 : decode cX12_mayFrom 41 = .ok (.iinc 3 1, 3) := by decide +kernel
theorem dX12_mayFrom_44 : decode cX12_mayFrom 44 = .ok (.goto (-40), 3) := by decide +kernel
theorem dX12_mayFrom_47 : decode cX12_mayFrom 47 = .ok (.iload_n 2, 1) := by decide +kernel
theorem dX12_mayFrom_48 : decode cX12_mayFrom 48 = .ok (.ireturn, 1) := by decide +kernel
theorem dX12_laysWanting_0 : decode cX12_laysWanting 0 = .ok (.iconst 0, 1) := by decide +kernel
theorem dX12_laysWanting_1 : decode cX12_laysWanting 1 = .ok (.istore_n 1, 1) := by decide +kernel
theorem dX12_laysWanting_2 : decode cX12_laysWanting 2 = .ok (.iconst 0, 1) := by decide +kernel
theorem dX12_laysWanting_3 : decode cX12_laysWanting 3 = .ok (.istore_n 2, 1) := by decide +kernel
theorem dX12_laysWanting_4 : decode cX12_laysWanting 4 = .ok (.iload_n 2, 1) := by decide +kernel
theorem dX12_laysWanting_5 : decode cX12_laysWanting 5 = .ok (.aload_n 0, 1) := by decide +kernel
theorem dX12_laysWanting_6 : decode cX12_laysWanting 6 = .ok (.getfield 260, 3) := by decide +kernel
theorem dX12_laysWanting_9 : decode cX12_laysWanting 9 = .ok (.if_icmp .ge 66, 3) := by decide +kernel
theorem dX12_laysWanting_12 : decode cX12_laysWanting 12 = .ok (.iconst 0, 1) := by decide +kernel
theorem dX12_laysWanting_13 : decode cX12_laysWanting 13 = .ok (.istore_n 3, 1) := by decide +kernel
theorem dX12_laysWanting_14 : decode cX12_laysWanting 14 = .ok (.iload_n 3, 1) := by decide +kernel
theorem dX12_laysWanting_15 : decode cX12_laysWanting 15 = .ok (.aload_n 0, 1) := by decide +kernel
theorem dX12_laysWanting_16 : decode cX12_laysWanting 16 = .ok (.getfield 263, 3) := by decide +kernel
theorem dX12_laysWanting_19 : decode cX12_laysWanting 19 = .ok (.if_icmp .ge 43, 3) := by decide +kernel
theorem dX12_laysWanting_22 : decode cX12_laysWanting 22 = .ok (.iload_n 1, 1) := by decide +kernel
theorem dX12_laysWanting_23 : decode cX12_laysWanting 23 = .ok (.aload_n 0, 1) := by decide +kernel
theorem dX12_laysWanting_24 : decode cX12_laysWanting 24 = .ok (.getfield 23, 3) := by decide +kernel
theorem dX12_laysWanting_27 : decode cX12_laysWanting 27 = .ok (.iload_n 3, 1) := by decide +kernel
theorem dX12_laysWanting_28 : decode cX12_laysWanting 28 = .ok (.iaload, 1) := by decide +kernel
theorem dX12_laysWanting_29 : decode cX12_laysWanting 29 = .ok (.iload_n 2, 1) := by decide +kernel
theorem dX12_laysWanting_30 : decode cX12_laysWanting 30 = .ok (.if_icmp .ne 20, 3) := by decide +kernel
theorem dX12_laysWanting_33 : decode cX12_laysWanting 33 = .ok (.aload_n 0, 1) := by decide +kernel
theorem dX12_laysWanting_34 : decode cX12_laysWanting 34 = .ok (.getfield 32, 3) := by decide +kernel
theorem dX12_laysWanting_37 : decode cX12_laysWanting 37 = .ok (.bipush 30, 2) := by decide +kernel
theorem dX12_laysWanting_39 : decode cX12_laysWanting 39 = .ok (.iload_n 3, 1) := by decide +kernel
theorem dX12_laysWanting_40 : decode cX12_laysWanting 40 = .ok (.iadd, 1) := by decide +kernel
theorem dX12_laysWanting_41 : decode cX12_laysWanting 41 = .ok (.iaload, 1) := by decide +kernel
theorem dX12_laysWanting_42 : decode cX12_laysWanting 42 = .ok (.iconst 1, 1) := by decide +kernel
theorem dX12_laysWanting_43 : decode cX12_laysWanting 43 = .ok (.if_icmp .ne 7, 3) := by decide +kernel
theorem dX12_laysWanting_46 : decode cX12_laysWanting 46 = .ok (.iconst 1, 1) := by decide +kernel
theorem dX12_laysWanting_47 : decode cX12_laysWanting 47 = .ok (.goto 4, 3) := by decide +kernel
theorem dX12_laysWanting_50 : decode cX12_laysWanting 50 = .ok (.iconst 0, 1) := by decide +kernel
theorem dX12_laysWanting_51 : decode cX12_laysWanting 51 = .ok (.invokestatic 235, 3) := by decide +kernel
theorem dX12_laysWanting_54 : decode cX12_laysWanting 54 = .ok (.iadd, 1) := by decide +kernel
theorem dX12_laysWanting_55 : decode cX12_laysWanting 55 = .ok (.istore_n 1, 1) := by decide +kernel
theorem dX12_laysWanting_56 : decode cX12_laysWanting 56 = .ok (.iinc 3 1, 3) := by decide +kernel
theorem dX12_laysWanting_59 : decode cX12_laysWanting 59 = .ok (.goto (-45), 3) := by decide +kernel
theorem dX12_laysWanting_62 : decode cX12_laysWanting 62 = .ok (.aload_n 0, 1) := by decide +kernel
theorem dX12_laysWanting_63 : decode cX12_laysWanting 63 = .ok (.getfield 101, 3) := by decide +kernel
theorem dX12_laysWanting_66 : decode cX12_laysWanting 66 = .ok (.iload_n 2, 1) := by decide +kernel
theorem dX12_laysWanting_67 : decode cX12_laysWanting 67 = .ok (.iload_n 1, 1) := by decide +kernel
theorem dX12_laysWanting_68 : decode cX12_laysWanting 68 = .ok (.iastore, 1) := by decide +kernel
theorem dX12_laysWanting_69 : decode cX12_laysWanting 69 = .ok (.iinc 2 1, 3) := by decide +kernel
theorem dX12_laysWanting_72 : decode cX12_laysWanting 72 = .ok (.goto (-68), 3) := by decide +kernel
theorem dX12_laysWanting_75 : decode cX12_laysWanting 75 = .ok (.return_, 1) := by decide +kernel
theorem dX12_goesUp_0 : decode cX12_goesUp 0 = .ok (.aload_n 0, 1) := by decide +kernel
theorem dX12_goesUp_1 : decode cX12_goesUp 1 = .ok (.getfield 23, 3) := by decide +kernel
theorem dX12_goesUp_4 : decode cX12_goesUp 4 = .ok (.iload_n 1, 1) := by decide +kernel
theorem dX12_goesUp_5 : decode cX12_goesUp 5 = .ok (.iaload, 1) := by decide +kernel
theorem dX12_goesUp_6 : decode cX12_goesUp 6 = .ok (.istore_n 2, 1) := by decide +kernel
theorem dX12_goesUp_7 : decode cX12_goesUp 7 = .ok (.aload_n 0, 1) := by decide +kernel
theorem dX12_goesUp_8 : decode cX12_goesUp 8 = .ok (.getfield 82, 3) := by decide +kernel
theorem dX12_goesUp_11 : decode cX12_goesUp 11 = .ok (.iload_n 1, 1) := by decide +kernel
theorem dX12_goesUp_12 : decode cX12_goesUp 12 = .ok (.iconst 1, 1) := by decide +kernel
theorem dX12_goesUp_13 : decode cX12_goesUp 13 = .ok (.bastore, 1) := by decide +kernel
theorem dX12_goesUp_14 : decode cX12_goesUp 14 = .ok (.aload_n 0, 1) := by decide +kernel
theorem dX12_goesUp_15 : decode cX12_goesUp 15 = .ok (.getfield 95, 3) := by decide +kernel
theorem dX12_goesUp_18 : decode cX12_goesUp 18 = .ok (.bipush 12, 2) := by decide +kernel
theorem dX12_goesUp_20 : decode cX12_goesUp 20 = .ok (.iload_n 2, 1) := by decide +kernel
theorem dX12_goesUp_21 : decode cX12_goesUp 21 = .ok (.imul, 1) := by decide +kernel
theorem dX12_goesUp_22 : decode cX12_goesUp 22 = .ok (.aload_n 0, 1) := by decide +kernel
theorem dX12_goesUp_23 : decode cX12_goesUp 23 = .ok (.getfield 98, 3) := by decide +kernel
theorem dX12_goesUp_26 : decode cX12_goesUp 26 = .ok (.iload_n 2, 1) := by decide +kernel
theorem dX12_goesUp_27 : decode cX12_goesUp 27 = .ok (.iaload, 1) := by decide +kernel
theorem dX12_goesUp_28 : decode cX12_goesUp 28 = .ok (.iadd, 1) := by decide +kernel
theorem dX12_goesUp_29 : decode cX12_goesUp 29 = .ok (.iload_n 1, 1) := by decide +kernel
theorem dX12_goesUp_30 : decode cX12_goesUp 30 = .ok (.iastore, 1) := by decide +kernel
theorem dX12_goesUp_31 : decode cX12_goesUp 31 = .ok (.aload_n 0, 1) := by decide +kernel
theorem dX12_goesUp_32 : decode cX12_goesUp 32 = .ok (.getfield 98, 3) := by decide +kernel
theorem dX12_goesUp_35 : decode cX12_goesUp 35 = .ok (.iload_n 2, 1) := by decide +kernel
theorem dX12_goesUp_36 : decode cX12_goesUp 36 = .ok (.dup2, 1) := by decide +kernel
theorem dX12_goesUp_37 : decode cX12_goesUp 37 = .ok (.iaload, 1) := by decide +kernel
theorem dX12_goesUp_38 : decode cX12_goesUp 38 = .ok (.iconst 1, 1) := by decide +kernel
theorem dX12_goesUp_39 : decode cX12_goesUp 39 = .ok (.iadd, 1) := by decide +kernel
theorem dX12_goesUp_40 : decode cX12_goesUp 40 = .ok (.iastore, 1) := by decide +kernel
theorem dX12_goesUp_41 : decode cX12_goesUp 41 = .ok (.return_, 1) := by decide +kernel
theorem dX12_picks_0 : decode cX12_picks 0 = .ok (.iconst 0, 1) := by decide +kernel
theorem dX12_picks_1 : decode cX12_picks 1 = .ok (.istore 4, 2) := by decide +kernel
theorem dX12_picks_3 : decode cX12_picks 3 = .ok (.iload 4, 2) := by decide +kernel
theorem dX12_picks_5 : decode cX12_picks 5 = .ok (.aload_n 0, 1) := by decide +kernel
theorem dX12_picks_6 : decode cX12_picks 6 = .ok (.getfield 67, 3) := by decide +kernel
theorem dX12_picks_9 : decode cX12_picks 9 = .ok (.iload_n 1, 1) := by decide +kernel
theorem dX12_picks_10 : decode cX12_picks 10 = .ok (.iaload, 1) := by decide +kernel
theorem dX12_picks_11 : decode cX12_picks 11 = .ok (.if_icmp .ge 72, 3) := by decide +kernel
theorem dX12_picks_14 : decode cX12_picks 14 = .ok (.aload_n 0, 1) := by decide +kernel
theorem dX12_picks_15 : decode cX12_picks 15 = .ok (.getfield 98, 3) := by decide +kernel
theorem dX12_picks_18 : decode cX12_picks 18 = .ok (.iload_n 1, 1) := by decide +kernel
theorem dX12_picks_19 : decode cX12_picks 19 = .ok (.iaload, 1) := by decide +kernel
theorem dX12_picks_20 : decode cX12_picks 20 = .ok (.iload_n 2, 1) := by decide +kernel
theorem dX12_picks_21 : decode cX12_picks 21 = .ok (.if_icmp .ge 62, 3) := by decide +kernel
theorem dX12_picks_24 : decode cX12_picks 24 = .ok (.aload_n 0, 1) := by decide +kernel
theorem dX12_picks_25 : decode cX12_picks 25 = .ok (.getfield 64, 3) := by decide +kernel
theorem dX12_picks_28 : decode cX12_picks 28 = .ok (.bipush 12, 2) := by decide +kernel
theorem dX12_picks_30 : decode cX12_picks 30 = .ok (.iload_n 1, 1) := by decide +kernel
theorem dX12_picks_31 : decode cX12_picks 31 = .ok (.imul, 1) := by decide +kernel
theorem dX12_picks_32 : decode cX12_picks 32 = .ok (.iload 4, 2) := by decide +kernel
theorem dX12_picks_34 : decode cX12_picks 34 = .ok (.iadd, 1) := by decide +kernel
theorem dX12_picks_35 : decode cX12_picks 35 = .ok (.iaload, 1) := by decide +kernel
theorem dX12_picks_36 : decode cX12_picks 36 = .ok (.istore 5, 2) := by decide +kernel
theorem dX12_picks_38 : decode cX12_picks 38 = .ok (.aload_n 0, 1) := by decide +kernel
theorem dX12_picks_39 : decode cX12_picks 39 = .ok (.getfield 82, 3) := by decide +kernel
theorem dX12_picks_42 : decode cX12_picks 42 = .ok (.iload 5, 2) := by decide +kernel
theorem dX12_picks_44 : decode cX12_picks 44 = .ok (.baload, 1) := by decide +kernel
theorem dX12_picks_45 : decode cX12_picks 45 = .ok (.ifCond .ne 32, 3) := by decide +kernel
theorem dX12_picks_48 : decode cX12_picks 48 = .ok (.aload_n 0, 1) := by decide +kernel
theorem dX12_picks_49 : decode cX12_picks 49 = .ok (.getfield 32, 3) := by decide +kernel
theorem dX12_picks_52 : decode cX12_picks 52 = .ok (.bipush 30, 2) := by decide +kernel
theorem dX12_picks_54 : decode cX12_picks 54 = .ok (.iload 5, 2) := by decide +kernel
theorem dX12_picks_56 : decode cX12_picks 56 = .ok (.iadd, 1) := by decide +kernel
theorem dX12_picks_57 : decode cX12_picks 57 = .ok (.iaload, 1) := by decide +kernel
theorem dX12_picks_58 : decode cX12_picks 58 = .ok (.ifCond .ne 19, 3) := by decide +kernel
theorem dX12_picks_61 : decode cX12_picks 61 = .ok (.aload_n 0, 1) := by decide +kernel
theorem dX12_picks_62 : decode cX12_picks 62 = .ok (.iload 5, 2) := by decide +kernel
theorem dX12_picks_64 : decode cX12_picks 64 = .ok (.invokevirtual 339, 3) := by decide +kernel
theorem dX12_picks_67 : decode cX12_picks 67 = .ok (.iload_n 3, 1) := by decide +kernel
theorem dX12_picks_68 : decode cX12_picks 68 = .ok (.if_icmp .ne 9, 3) := by decide +kernel
theorem dX12_picks_71 : decode cX12_picks 71 = .ok (.aload_n 0, 1) := by decide +kernel
theorem dX12_picks_72 : decode cX12_picks 72 = .ok (.iload 5, 2) := by decide +kernel
theorem dX12_picks_74 : decode cX12_picks 74 = .ok (.invokevirtual 342, 3) := by decide +kernel
theorem dX12_picks_77 : decode cX12_picks 77 = .ok (.iinc 4 1, 3) := by decide +kernel
theorem dX12_picks_80 : decode cX12_picks 80 = .ok (.goto (-77), 3) := by decide +kernel
theorem dX12_picks_83 : decode cX12_picks 83 = .ok (.return_, 1) := by decide +kernel
theorem dX12_ends_0 : decode cX12_ends 0 = .ok (.aload_n 0, 1) := by decide +kernel
theorem dX12_ends_1 : decode cX12_ends 1 = .ok (.getfield 260, 3) := by decide +kernel
theorem dX12_ends_4 : decode cX12_ends 4 = .ok (.ifCond .ne 5, 3) := by decide +kernel
theorem dX12_ends_7 : decode cX12_ends 7 = .ok (.iconst 0, 1) := by decide +kernel
theorem dX12_ends_8 : decode cX12_ends 8 = .ok (.ireturn, 1) := by decide +kernel
theorem dX12_ends_9 : decode cX12_ends 9 = .ok (.aload_n 0, 1) := by decide +kernel
theorem dX12_ends_10 : decode cX12_ends 10 = .ok (.invokevirtual 345, 3) := by decide +kernel
theorem dX12_ends_13 : decode cX12_ends 13 = .ok (.aload_n 0, 1) := by decide +kernel
theorem dX12_ends_14 : decode cX12_ends 14 = .ok (.invokevirtual 348, 3) := by decide +kernel
theorem dX12_ends_17 : decode cX12_ends 17 = .ok (.iconst 0, 1) := by decide +kernel
theorem dX12_ends_18 : decode cX12_ends 18 = .ok (.istore_n 1, 1) := by decide +kernel
theorem dX12_ends_19 : decode cX12_ends 19 = .ok (.iload_n 1, 1) := by decide +kernel
theorem dX12_ends_20 : decode cX12_ends 20 = .ok (.aload_n 0, 1) := by decide +kernel
theorem dX12_ends_21 : decode cX12_ends 21 = .ok (.getfield 263, 3) := by decide +kernel
theorem dX12_ends_24 : decode cX12_ends 24 = .ok (.if_icmp .ge 37, 3) := by decide +kernel
theorem dX12_ends_27 : decode cX12_ends 27 = .ok (.aload_n 0, 1) := by decide +kernel
theorem dX12_ends_28 : decode cX12_ends 28 = .ok (.getfield 82, 3) := by decide +kernel
theorem dX12_ends_31 : decode cX12_ends 31 = .ok (.iload_n 1, 1) := by decide +kernel
theorem dX12_ends_32 : decode cX12_ends 32 = .ok (.iconst 0, 1) := by decide +kernel
theorem dX12_ends_33 : decode cX12_ends 33 = .ok (.bastore, 1) := by decide +kernel
theorem dX12_ends_34 : decode cX12_ends 34 = .ok (.aload_n 0, 1) := by decide +kernel
theorem dX12_ends_35 : decode cX12_ends 35 = .ok (.getfield 86, 3) := by decide +kernel
theorem dX12_ends_38 : decode cX12_ends 38 = .ok (.iload_n 1, 1) := by decide +kernel
theorem dX12_ends_39 : decode cX12_ends 39 = .ok (.iconst 0, 1) := by decide +kernel
theorem dX12_ends_40 : decode cX12_ends 40 = .ok (.bastore, 1) := by decide +kernel
theorem dX12_ends_41 : decode cX12_ends 41 = .ok (.aload_n 0, 1) := by decide +kernel
theorem dX12_ends_42 : decode cX12_ends 42 = .ok (.getfield 89, 3) := by decide +kernel
theorem dX12_ends_45 : decode cX12_ends 45 = .ok (.iload_n 1, 1) := by decide +kernel
theorem dX12_ends_46 : decode cX12_ends 46 = .ok (.iconst 0, 1) := by decide +kernel
theorem dX12_ends_47 : decode cX12_ends 47 = .ok (.bastore, 1) := by decide +kernel
theorem dX12_ends_48 : decode cX12_ends 48 = .ok (.aload_n 0, 1) := by decide +kernel
theorem dX12_ends_49 : decode cX12_ends 49 = .ok (.getfield 92, 3) := by decide +kernel
theorem dX12_ends_52 : decode cX12_ends 52 = .ok (.iload_n 1, 1) := by decide +kernel
theorem dX12_ends_53 : decode cX12_ends 53 = .ok (.iconst 0, 1) := by decide +kernel
theorem dX12_ends_54 : decode cX12_ends 54 = .ok (.bastore, 1) := by decide +kernel
theorem dX12_ends_55 : decode cX12_ends 55 = .ok (.iinc 1 1, 3) := by decide +kernel
theorem dX12_ends_58 : decode cX12_ends 58 = .ok (.goto (-39), 3) := by decide +kernel
theorem dX12_ends_61 : decode cX12_ends 61 = .ok (.iconst 1, 1) := by decide +kernel
theorem dX12_ends_62 : decode cX12_ends 62 = .ok (.istore_n 1, 1) := by decide +kernel
theorem dX12_ends_63 : decode cX12_ends 63 = .ok (.iconst 0, 1) := by decide +kernel
theorem dX12_ends_64 : decode cX12_ends 64 = .ok (.istore_n 2, 1) := by decide +kernel
theorem dX12_ends_65 : decode cX12_ends 65 = .ok (.iload_n 2, 1) := by decide +kernel
theorem dX12_ends_66 : decode cX12_ends 66 = .ok (.iconst 4, 1) := by decide +kernel
theorem dX12_ends_67 : decode cX12_ends 67 = .ok (.if_icmp .ge 23, 3) := by decide +kernel
theorem dX12_ends_70 : decode cX12_ends 70 = .ok (.aload_n 0, 1) := by decide +kernel
theorem dX12_ends_71 : decode cX12_ends 71 = .ok (.getfield 98, 3) := by decide +kernel
theorem dX12_ends_74 : decode cX12_ends 74 = .ok (.iload_n 2, 1) := by decide +kernel
theorem dX12_ends_75 : decode cX12_ends 75 = .ok (.iconst 0, 1) := by decide +kernel
theorem dX12_ends_76 : decode cX12_ends 76 = .ok (.iastore, 1) := by decide +kernel
theorem dX12_ends_77 : decode cX12_ends 77 = .ok (.aload_n 0, 1) := by decide +kernel
theorem dX12_ends_78 : decode cX12_ends 78 = .ok (.getfield 104, 3) := by decide +kernel
theorem dX12_ends_81 : decode cX12_ends 81 = .ok (.iload_n 2, 1) := by decide +kernel
theorem dX12_ends_82 : decode cX12_ends 82 = .ok (.iconst 0, 1) := by decide +kernel
theorem dX12_ends_83 : decode cX12_ends 83 = .ok (.iastore, 1) := by decide +kernel
theorem dX12_ends_84 : decode cX12_ends 84 = .ok (.iinc 2 1, 3) := by decide +kernel
theorem dX12_ends_87 : decode cX12_ends 87 = .ok (.goto (-22), 3) := by decide +kernel
theorem dX12_ends_90 : decode cX12_ends 90 = .ok (.iconst 0, 1) := by decide +kernel
theorem dX12_ends_91 : decode cX12_ends 91 = .ok (.istore_n 2, 1) := by decide +kernel
theorem dX12_ends_92 : decode cX12_ends 92 = .ok (.iload_n 2, 1) := by decide +kernel
theorem dX12_ends_93 : decode cX12_ends 93 = .ok (.iconst 1, 1) := by decide +kernel
theorem dX12_ends_94 : decode cX12_ends 94 = .ok (.iadd, 1) := by decide +kernel
theorem dX12_ends_95 : decode cX12_ends 95 = .ok (.aload_n 0, 1) := by decide +kernel
theorem dX12_ends_96 : decode cX12_ends 96 = .ok (.getfield 260, 3) := by decide +kernel
theorem dX12_ends_99 : decode cX12_ends 99 = .ok (.if_icmp .ge 108, 3) := by decide +kernel
theorem dX12_ends_102 : decode cX12_ends 102 = .ok (.aload_n 0, 1) := by decide +kernel
theorem dX12_ends_103 : decode cX12_ends 103 = .ok (.getfield 104, 3) := by decide +kernel
theorem dX12_ends_106 : decode cX12_ends 106 = .ok (.iload_n 2, 1) := by decide +kernel
theorem dX12_ends_107 : decode cX12_ends 107 = .ok (.aload_n 0, 1) := by decide +kernel
theorem dX12_ends_108 : decode cX12_ends 108 = .ok (.getfield 101, 3) := by decide +kernel
theorem dX12_ends_111 : decode cX12_ends 111 = .ok (.iload_n 2, 1) := by decide +kernel
theorem dX12_ends_112 : decode cX12_ends 112 = .ok (.iaload, 1) := by decide +kernel
theorem dX12_ends_113 : decode cX12_ends 113 = .ok (.aload_n 0, 1) := by decide +kernel
theorem dX12_ends_114 : decode cX12_ends 114 = .ok (.getfield 7, 3) := by decide +kernel
theorem dX12_ends_117 : decode cX12_ends 117 = .ok (.iconst 4, 1) := by decide +kernel
theorem dX12_ends_118 : decode cX12_ends 118 = .ok (.iload_n 2, 1) := by decide +kernel
theorem dX12_ends_119 : decode cX12_ends 119 = .ok (.imul, 1) := by decide +kernel
theorem dX12_ends_120 : decode cX12_ends 120 = .ok (.iconst 2, 1) := by decide +kernel
theorem dX12_ends_121 : decode cX12_ends 121 = .ok (.iadd, 1) := by decide +kernel
theorem dX12_ends_122 : decode cX12_ends 122 = .ok (.iaload, 1) := by decide +kernel
theorem dX12_ends_123 : decode cX12_ends 123 = .ok (.aload_n 0, 1) := by decide +kernel
theorem dX12_ends_124 : decode cX12_ends 124 = .ok (.getfield 101, 3) := by decide +kernel
theorem dX12_ends_127 : decode cX12_ends 127 = .ok (.iload_n 2, 1) := by decide +kernel
theorem dX12_ends_128 : decode cX12_ends 128 = .ok (.iaload, 1) := by decide +kernel
theorem dX12_ends_129 : decode cX12_ends 129 = .ok (.invokestatic 351, 3) := by decide +kernel
theorem dX12_ends_132 : decode cX12_ends 132 = .ok (.aload_n 0, 1) := by decide +kernel
theorem dX12_ends_133 : decode cX12_ends 133 = .ok (.iload_n 2, 1) := by decide +kernel
theorem dX12_ends_134 : decode cX12_ends 134 = .ok (.iconst 1, 1) := by decide +kernel
theorem dX12_ends_135 : decode cX12_ends 135 = .ok (.iadd, 1) := by decide +kernel
theorem dX12_ends_136 : decode cX12_ends 136 = .ok (.invokevirtual 354, 3) := by decide +kernel
theorem dX12_ends_139 : decode cX12_ends 139 = .ok (.invokestatic 215, 3) := by decide +kernel
theorem dX12_ends_142 : decode cX12_ends 142 = .ok (.invokestatic 351, 3) := by decide +kernel
theorem dX12_ends_145 : decode cX12_ends 145 = .ok (.iastore, 1) := by decide +kernel
theorem dX12_ends_146 : decode cX12_ends 146 = .ok (.aload_n 0, 1) := by decide +kernel
theorem dX12_ends_147 : decode cX12_ends 147 = .ok (.iload_n 2, 1) := by decide +kernel
theorem dX12_ends_148 : decode cX12_ends 148 = .ok (.iconst 1, 1) := by decide +kernel
theorem dX12_ends_149 : decode cX12_ends 149 = .ok (.iadd, 1) := by decide +kernel
theorem dX12_ends_150 : decode cX12_ends 150 = .ok (.aload_n 0, 1) := by decide +kernel
theorem dX12_ends_151 : decode cX12_ends 151 = .ok (.getfield 104, 3) := by decide +kernel
theorem dX12_ends_154 : decode cX12_ends 154 = .ok (.iload_n 2, 1) := by decide +kernel
theorem dX12_ends_155 : decode cX12_ends 155 = .ok (.iaload, 1) := by decide +kernel
theorem dX12_ends_156 : decode cX12_ends 156 = .ok (.iconst 1, 1) := by decide +kernel
theorem dX12_ends_157 : decode cX12_ends 157 = .ok (.invokevirtual 357, 3) := by decide +kernel
theorem dX12_ends_160 : decode cX12_ends 160 = .ok (.aload_n 0, 1) := by decide +kernel
theorem dX12_ends_161 : decode cX12_ends 161 = .ok (.iload_n 2, 1) := by decide +kernel
theorem dX12_ends_162 : decode cX12_ends 162 = .ok (.iconst 1, 1) := by decide +kernel
theorem dX12_ends_163 : decode cX12_ends 163 = .ok (.iadd, 1) := by decide +kernel
theorem dX12_ends_164 : decode cX12_ends 164 = .ok (.aload_n 0, 1) := by decide +kernel
theorem dX12_ends_165 : decode cX12_ends 165 = .ok (.getfield 104, 3) := by decide +kernel
theorem dX12_ends_168 : decode cX12_ends 168 = .ok (.iload_n 2, 1) := by decide +kernel
theorem dX12_ends_169 : decode cX12_ends 169 = .ok (.iaload, 1) := by decide +kernel
theorem dX12_ends_170 : decode cX12_ends 170 = .ok (.iconst 0, 1) := by decide +kernel
theorem dX12_ends_171 : decode cX12_ends 171 = .ok (.invokevirtual 357, 3) := by decide +kernel
theorem dX12_ends_174 : decode cX12_ends 174 = .ok (.iload_n 1, 1) := by decide +kernel
theorem dX12_ends_175 : decode cX12_ends 175 = .ok (.ifCond .eq 24, 3) := by decide +kernel
theorem dX12_ends_178 : decode cX12_ends 178 = .ok (.aload_n 0, 1) := by decide +kernel
theorem dX12_ends_179 : decode cX12_ends 179 = .ok (.getfield 98, 3) := by decide +kernel
theorem dX12_ends_182 : decode cX12_ends 182 = .ok (.iload_n 2, 1) := by decide +kernel
theorem dX12_ends_183 : decode cX12_ends 183 = .ok (.iconst 1, 1) := by decide +kernel
theorem dX12_ends_184 : decode cX12_ends 184 = .ok (.iadd, 1) := by decide +kernel
theorem dX12_ends_185 : decode cX12_ends 185 = .ok (.iaload, 1) := by decide +kernel
theorem dX12_ends_186 : decode cX12_ends 186 = .ok (.aload_n 0, 1) := by decide +kernel
theorem dX12_ends_187 : decode cX12_ends 187 = .ok (.getfield 104, 3) := by decide +kernel
theorem dX12_ends_190 : decode cX12_ends 190 = .ok (.iload_n 2, 1) := by decide +kernel
theorem dX12_ends_191 : decode cX12_ends 191 = .ok (.iaload, 1) := by decide +kernel
theorem dX12_ends_192 : decode cX12_ends 192 = .ok (.if_icmp .ne 7, 3) := by decide +kernel
theorem dX12_ends_195 : decode cX12_ends 195 = .ok (.iconst 1, 1) := by decide +kernel
theorem dX12_ends_196 : decode cX12_ends 196 = .ok (.goto 4, 3) := by decide +kernel
theorem dX12_ends_199 : decode cX12_ends 199 = .ok (.iconst 0, 1) := by decide +kernel
theorem dX12_ends_200 : decode cX12_ends 200 = .ok (.istore_n 1, 1) := by decide +kernel
theorem dX12_ends_201 : decode cX12_ends 201 = .ok (.iinc 2 1, 3) := by decide +kernel
theorem dX12_ends_204 : decode cX12_ends 204 = .ok (.goto (-112), 3) := by decide +kernel
theorem dX12_ends_207 : decode cX12_ends 207 = .ok (.iconst 0, 1) := by decide +kernel
theorem dX12_ends_208 : decode cX12_ends 208 = .ok (.istore_n 2, 1) := by decide +kernel
theorem dX12_ends_209 : decode cX12_ends 209 = .ok (.iload_n 2, 1) := by decide +kernel
theorem dX12_ends_210 : decode cX12_ends 210 = .ok (.iconst 1, 1) := by decide +kernel
theorem dX12_ends_211 : decode cX12_ends 211 = .ok (.iadd, 1) := by decide +kernel
theorem dX12_ends_212 : decode cX12_ends 212 = .ok (.aload_n 0, 1) := by decide +kernel
theorem dX12_ends_213 : decode cX12_ends 213 = .ok (.getfield 260, 3) := by decide +kernel
theorem dX12_ends_216 : decode cX12_ends 216 = .ok (.if_icmp .ge 154, 3) := by decide +kernel
theorem dX12_ends_219 : decode cX12_ends 219 = .ok (.aload_n 0, 1) := by decide +kernel
theorem dX12_ends_220 : decode cX12_ends 220 = .ok (.getfield 104, 3) := by decide +kernel
theorem dX12_ends_223 : decode cX12_ends 223 = .ok (.iload_n 2, 1) := by decide +kernel
theorem dX12_ends_224 : decode cX12_ends 224 = .ok (.iaload, 1) := by decide +kernel
theorem dX12_ends_225 : decode cX12_ends 225 = .ok (.aload_n 0, 1) := by decide +kernel
theorem dX12_ends_226 : decode cX12_ends 226 = .ok (.getfield 101, 3) := by decide +kernel
theorem dX12_ends_229 : decode cX12_ends 229 = .ok (.iload_n 2, 1) := by decide +kernel
theorem dX12_ends_230 : decode cX12_ends 230 = .ok (.iaload, 1) := by decide +kernel
theorem dX12_ends_231 : decode cX12_ends 231 = .ok (.isub, 1) := by decide +kernel
theorem dX12_ends_232 : decode cX12_ends 232 = .ok (.istore_n 3, 1) := by decide +kernel
theorem dX12_ends_233 : decode cX12_ends 233 = .ok (.aload_n 0, 1) := by decide +kernel
theorem dX12_ends_234 : decode cX12_ends 234 = .ok (.getfield 7, 3) := by decide +kernel
theorem dX12_ends_237 : decode cX12_ends 237 = .ok (.iconst 4, 1) := by decide +kernel
theorem dX12_ends_238 : decode cX12_ends 238 = .ok (.iload_n 2, 1) := by decide +kernel
theorem dX12_ends_239 : decode cX12_ends 239 = .ok (.imul, 1) := by decide +kernel
theorem dX12_ends_240 : decode cX12_ends 240 = .ok (.iconst 2, 1) := by decide +kernel
theorem dX12_ends_241 : decode cX12_ends 241 = .ok (.iadd, 1) := by decide +kernel
theorem dX12_ends_242 : decode cX12_ends 242 = .ok (.iaload, 1) := by decide +kernel
theorem dX12_ends_243 : decode cX12_ends 243 = .ok (.istore 4, 2) := by decide +kernel
theorem dX12_ends_245 : decode cX12_ends 245 = .ok (.aload_n 0, 1) := by decide +kernel
theorem dX12_ends_246 : decode cX12_ends 246 = .ok (.getfield 67, 3) := by decide +kernel
theorem dX12_ends_249 : decode cX12_ends 249 = .ok (.iload_n 2, 1) := by decide +kernel
theorem dX12_ends_250 : decode cX12_ends 250 = .ok (.iaload, 1) := by decide +kernel
theorem dX12_ends_251 : decode cX12_ends 251 = .ok (.iconst 1, 1) := by decide +kernel
theorem dX12_ends_252 : decode cX12_ends 252 = .ok (.isub, 1) := by decide +kernel
theorem dX12_ends_253 : decode cX12_ends 253 = .ok (.istore 5, 2) := by decide +kernel
theorem dX12_ends_255 : decode cX12_ends 255 = .ok (.iload 5, 2) := by decide +kernel
theorem dX12_ends_257 : decode cX12_ends 257 = .ok (.ifCond .lt 93, 3) := by decide +kernel
theorem dX12_ends_260 : decode cX12_ends 260 = .ok (.aload_n 0, 1) := by decide +kernel
theorem dX12_ends_261 : decode cX12_ends 261 = .ok (.getfield 64, 3) := by decide +kernel
theorem dX12_ends_264 : decode cX12_ends 264 = .ok (.bipush 12, 2) := by decide +kernel
theorem dX12_ends_266 : decode cX12_ends 266 = .ok (.iload_n 2, 1) := by decide +kernel
theorem dX12_ends_267 : decode cX12_ends 267 = .ok (.imul, 1) := by decide +kernel
theorem dX12_ends_268 : decode cX12_ends 268 = .ok (.iload 5, 2) := by decide +kernel
theorem dX12_ends_270 : decode cX12_ends 270 = .ok (.iadd, 1) := by decide +kernel
theorem dX12_ends_271 : decode cX12_ends 271 = .ok (.iaload, 1) := by decide +kernel
theorem dX12_ends_272 : decode cX12_ends 272 = .ok (.istore 6, 2) := by decide +kernel
theorem dX12_ends_274 : decode cX12_ends 274 = .ok (.aload_n 0, 1) := by decide +kernel
theorem dX12_ends_275 : decode cX12_ends 275 = .ok (.getfield 82, 3) := by decide +kernel
theorem dX12_ends_278 : decode cX12_ends 278 = .ok (.iload 6, 2) := by decide +kernel
theorem dX12_ends_280 : decode cX12_ends 280 = .ok (.baload, 1) := by decide +kernel
theorem dX12_ends_281 : decode cX12_ends 281 = .ok (.ifCond .ne 63, 3) := by decide +kernel
theorem dX12_ends_284 : decode cX12_ends 284 = .ok (.aload_n 0, 1) := by decide +kernel
theorem dX12_ends_285 : decode cX12_ends 285 = .ok (.getfield 32, 3) := by decide +kernel
theorem dX12_ends_288 : decode cX12_ends 288 = .ok (.bipush 30, 2) := by decide +kernel
theorem dX12_ends_290 : decode cX12_ends 290 = .ok (.iload 6, 2) := by decide +kernel
theorem dX12_ends_292 : decode cX12_ends 292 = .ok (.iadd, 1) := by decide +kernel
theorem dX12_ends_293 : decode cX12_ends 293 = .ok (.iaload, 1) := by decide +kernel
theorem dX12_ends_294 : decode cX12_ends 294 = .ok (.iconst 1, 1) := by decide +kernel
theorem dX12_ends_295 : decode cX12_ends 295 = .ok (.if_icmp .ne 6, 3) := by decide +kernel
theorem dX12_ends_298 : decode cX12_ends 298 = .ok (.goto 46, 3) := by decide +kernel
theorem dX12_ends_301 : decode cX12_ends 301 = .ok (.aload_n 0, 1) := by decide +kernel
theorem dX12_ends_302 : decode cX12_ends 302 = .ok (.getfield 86, 3) := by decide +kernel
theorem dX12_ends_305 : decode cX12_ends 305 = .ok (.iload 6, 2) := by decide +kernel
theorem dX12_ends_307 : decode cX12_ends 307 = .ok (.iload_n 3, 1) := by decide +kernel
theorem dX12_ends_308 : decode cX12_ends 308 = .ok (.ifCond .le 7, 3) := by decide +kernel
theorem dX12_ends_311 : decode cX12_ends 311 = .ok (.iconst 1, 1) := by decide +kernel
theorem dX12_ends_312 : decode cX12_ends 312 = .ok (.goto 4, 3) := by decide +kernel
theorem dX12_ends_315 : decode cX12_ends 315 = .ok (.iconst 0, 1) := by decide +kernel
theorem dX12_ends_316 : decode cX12_ends 316 = .ok (.bastore, 1) := by decide +kernel
theorem dX12_ends_317 : decode cX12_ends 317 = .ok (.aload_n 0, 1) := by decide +kernel
theorem dX12_ends_318 : decode cX12_ends 318 = .ok (.getfield 92, 3) := by decide +kernel
theorem dX12_ends_321 : decode cX12_ends 321 = .ok (.iload 6, 2) := by decide +kernel
theorem dX12_ends_323 : decode cX12_ends 323 = .ok (.iload_n 3, 1) := by decide +kernel
theorem dX12_ends_324 : decode cX12_ends 324 = .ok (.ifCond .gt 12, 3) := by decide +kernel
theorem dX12_ends_327 : decode cX12_ends 327 = .ok (.iload 4, 2) := by decide +kernel
theorem dX12_ends_329 : decode cX12_ends 329 = .ok (.ifCond .le 7, 3) := by decide +kernel
theorem dX12_ends_332 : decode cX12_ends 332 = .ok (.iconst 1, 1) := by decide +kernel
theorem dX12_ends_333 : decode cX12_ends 333 = .ok (.goto 4, 3) := by decide +kernel
theorem dX12_ends_336 : decode cX12_ends 336 = .ok (.iconst 0, 1) := by decide +kernel
theorem dX12_ends_337 : decode cX12_ends 337 = .ok (.bastore, 1) := by decide +kernel
theorem dX12_ends_338 : decode cX12_ends 338 = .ok (.iinc 3 (-1), 3) := by decide +kernel
theorem dX12_ends_341 : decode cX12_ends 341 = .ok (.iinc 4 (-1), 3) := by decide +kernel
theorem dX12_ends_344 : decode cX12_ends 344 = .ok (.iinc 5 (-1), 3) := by decide +kernel
theorem dX12_ends_347 : decode cX12_ends 347 = .ok (.goto (-92), 3) := by decide +kernel
theorem dX12_ends_350 : decode cX12_ends 350 = .ok (.iload_n 1, 1) := by decide +kernel
theorem dX12_ends_351 : decode cX12_ends 351 = .ok (.ifCond .eq 11, 3) := by decide +kernel
theorem dX12_ends_354 : decode cX12_ends 354 = .ok (.iload_n 3, 1) := by decide +kernel
theorem dX12_ends_355 : decode cX12_ends 355 = .ok (.ifCond .gt 7, 3) := by decide +kernel
theorem dX12_ends_358 : decode cX12_ends 358 = .ok (.iconst 1, 1) := by decide +kernel
theorem dX12_ends_359 : decode cX12_ends 359 = .ok (.goto 4, 3) := by decide +kernel
theorem dX12_ends_362 : decode cX12_ends 362 = .ok (.iconst 0, 1) := by decide +kernel
theorem dX12_ends_363 : decode cX12_ends 363 = .ok (.istore_n 1, 1) := by decide +kernel
theorem dX12_ends_364 : decode cX12_ends 364 = .ok (.iinc 2 1, 3) := by decide +kernel
theorem dX12_ends_367 : decode cX12_ends 367 = .ok (.goto (-158), 3) := by decide +kernel
theorem dX12_ends_370 : decode cX12_ends 370 = .ok (.aload_n 0, 1) := by decide +kernel
theorem dX12_ends_371 : decode cX12_ends 371 = .ok (.getfield 101, 3) := by decide +kernel
theorem dX12_ends_374 : decode cX12_ends 374 = .ok (.aload_n 0, 1) := by decide +kernel
theorem dX12_ends_375 : decode cX12_ends 375 = .ok (.getfield 260, 3) := by decide +kernel
theorem dX12_ends_378 : decode cX12_ends 378 = .ok (.iconst 1, 1) := by decide +kernel
theorem dX12_ends_379 : decode cX12_ends 379 = .ok (.isub, 1) := by decide +kernel
theorem dX12_ends_380 : decode cX12_ends 380 = .ok (.iaload, 1) := by decide +kernel
theorem dX12_ends_381 : decode cX12_ends 381 = .ok (.istore_n 2, 1) := by decide +kernel
theorem dX12_ends_382 : decode cX12_ends 382 = .ok (.iconst 0, 1) := by decide +kernel
theorem dX12_ends_383 : decode cX12_ends 383 = .ok (.istore_n 3, 1) := by decide +kernel
theorem dX12_ends_384 : decode cX12_ends 384 = .ok (.iload_n 3, 1) := by decide +kernel
theorem dX12_ends_385 : decode cX12_ends 385 = .ok (.aload_n 0, 1) := by decide +kernel
theorem dX12_ends_386 : decode cX12_ends 386 = .ok (.getfield 263, 3) := by decide +kernel
theorem dX12_ends_389 : decode cX12_ends 389 = .ok (.if_icmp .ge 36, 3) := by decide +kernel
theorem dX12_ends_392 : decode cX12_ends 392 = .ok (.iload_n 2, 1) := by decide +kernel
theorem dX12_ends_393 : decode cX12_ends 393 = .ok (.ifCond .le 32, 3) := by decide +kernel
theorem dX12_ends_396 : decode cX12_ends 396 = .ok (.aload_n 0, 1) := by decide +kernel
theorem dX12_ends_397 : decode cX12_ends 397 = .ok (.getfield 23, 3) := by decide +kernel
theorem dX12_ends_400 : decode cX12_ends 400 = .ok (.iload_n 3, 1) := by decide +kernel
theorem dX12_ends_401 : decode cX12_ends 401 = .ok (.iaload, 1) := by decide +kernel
theorem dX12_ends_402 : decode cX12_ends 402 = .ok (.iconst (-1), 1) := by decide +kernel
theorem dX12_ends_403 : decode cX12_ends 403 = .ok (.if_icmp .eq 6, 3) := by decide +kernel
theorem dX12_ends_406 : decode cX12_ends 406 = .ok (.goto 13, 3) := by decide +kernel
theorem dX12_ends_409 : decode cX12_ends 409 = .ok (.aload_n 0, 1) := by decide +kernel
theorem dX12_ends_410 : decode cX12_ends 410 = .ok (.getfield 89, 3) := by decide +kernel
theorem dX12_ends_413 : decode cX12_ends 413 = .ok (.iload_n 3, 1) := by decide +kernel
theorem dX12_ends_414 : decode cX12_ends 414 = .ok (.iconst 1, 1) := by decide +kernel
theorem dX12_ends_415 : decode cX12_ends 415 = .ok (.bastore, 1) := by decide +kernel
theorem dX12_ends_416 : decode cX12_ends 416 = .ok (.iinc 2 (-1), 3) := by decide +kernel
theorem dX12_ends_419 : decode cX12_ends 419 = .ok (.iinc 3 1, 3) := by decide +kernel
theorem dX12_ends_422 : decode cX12_ends 422 = .ok (.goto (-38), 3) := by decide +kernel
theorem dX12_ends_425 : decode cX12_ends 425 = .ok (.iload_n 1, 1) := by decide +kernel
theorem dX12_ends_426 : decode cX12_ends 426 = .ok (.ifCond .eq 11, 3) := by decide +kernel
theorem dX12_ends_429 : decode cX12_ends 429 = .ok (.iload_n 2, 1) := by decide +kernel
theorem dX12_ends_430 : decode cX12_ends 430 = .ok (.ifCond .ne 7, 3) := by decide +kernel
theorem dX12_ends_433 : decode cX12_ends 433 = .ok (.iconst 1, 1) := by decide +kernel
theorem dX12_ends_434 : decode cX12_ends 434 = .ok (.goto 4, 3) := by decide +kernel
theorem dX12_ends_437 : decode cX12_ends 437 = .ok (.iconst 0, 1) := by decide +kernel
theorem dX12_ends_438 : decode cX12_ends 438 = .ok (.ireturn, 1) := by decide +kernel
theorem dX12_levelThen_0 : decode cX12_levelThen 0 = .ok (.aload_n 0, 1) := by decide +kernel
theorem dX12_levelThen_1 : decode cX12_levelThen 1 = .ok (.getfield 23, 3) := by decide +kernel
theorem dX12_levelThen_4 : decode cX12_levelThen 4 = .ok (.iload_n 1, 1) := by decide +kernel
theorem dX12_levelThen_5 : decode cX12_levelThen 5 = .ok (.iaload, 1) := by decide +kernel
theorem dX12_levelThen_6 : decode cX12_levelThen 6 = .ok (.bipush (-2), 2) := by decide +kernel
theorem dX12_levelThen_8 : decode cX12_levelThen 8 = .ok (.if_icmp .eq 16, 3) := by decide +kernel
theorem dX12_levelThen_11 : decode cX12_levelThen 11 = .ok (.aload_n 0, 1) := by decide +kernel
theorem dX12_levelThen_12 : decode cX12_levelThen 12 = .ok (.getfield 32, 3) := by decide +kernel
theorem dX12_levelThen_15 : decode cX12_levelThen 15 = .ok (.bipush 30, 2) := by decide +kernel
theorem dX12_levelThen_17 : decode cX12_levelThen 17 = .ok (.iload_n 1, 1) := by decide +kernel
theorem dX12_levelThen_18 : decode cX12_levelThen 18 = .ok (.iadd, 1) := by decide +kernel
theorem dX12_levelThen_19 : decode cX12_levelThen 19 = .ok (.iaload, 1) := by decide +kernel
theorem dX12_levelThen_20 : decode cX12_levelThen 20 = .ok (.iconst 1, 1) := by decide +kernel
theorem dX12_levelThen_21 : decode cX12_levelThen 21 = .ok (.if_icmp .ne 6, 3) := by decide +kernel
theorem dX12_levelThen_24 : decode cX12_levelThen 24 = .ok (.bipush (-2), 2) := by decide +kernel
theorem dX12_levelThen_26 : decode cX12_levelThen 26 = .ok (.ireturn, 1) := by decide +kernel
theorem dX12_levelThen_27 : decode cX12_levelThen 27 = .ok (.aload_n 0, 1) := by decide +kernel
theorem dX12_levelThen_28 : decode cX12_levelThen 28 = .ok (.getfield 82, 3) := by decide +kernel
theorem dX12_levelThen_31 : decode cX12_levelThen 31 = .ok (.iload_n 1, 1) := by decide +kernel
theorem dX12_levelThen_32 : decode cX12_levelThen 32 = .ok (.baload, 1) := by decide +kernel
theorem dX12_levelThen_33 : decode cX12_levelThen 33 = .ok (.ifCond .eq 14, 3) := by decide +kernel
theorem dX12_levelThen_36 : decode cX12_levelThen 36 = .ok (.aload_n 0, 1) := by decide +kernel
theorem dX12_levelThen_37 : decode cX12_levelThen 37 = .ok (.getfield 23, 3) := by decide +kernel
theorem dX12_levelThen_40 : decode cX12_levelThen 40 = .ok (.iload_n 1, 1) := by decide +kernel
theorem dX12_levelThen_41 : decode cX12_levelThen 41 = .ok (.iaload, 1) := by decide +kernel
theorem dX12_levelThen_42 : decode cX12_levelThen 42 = .ok (.iconst 1, 1) := by decide +kernel
theorem dX12_levelThen_43 : decode cX12_levelThen 43 = .ok (.isub, 1) := by decide +kernel
theorem dX12_levelThen_44 : decode cX12_levelThen 44 = .ok (.goto 47, 3) := by decide +kernel
theorem dX12_levelThen_47 : decode cX12_levelThen 47 = .ok (.aload_n 0, 1) := by decide +kernel
theorem dX12_levelThen_48 : decode cX12_levelThen 48 = .ok (.getfield 86, 3) := by decide +kernel
theorem dX12_levelThen_51 : decode cX12_levelThen 51 = .ok (.iload_n 1, 1) := by decide +kernel
theorem dX12_levelThen_52 : decode cX12_levelThen 52 = .ok (.baload, 1) := by decide +kernel
theorem dX12_levelThen_53 : decode cX12_levelThen 53 = .ok (.ifCond .eq 14, 3) := by decide +kernel
theorem dX12_levelThen_56 : decode cX12_levelThen 56 = .ok (.aload_n 0, 1) := by decide +kernel
theorem dX12_levelThen_57 : decode cX12_levelThen 57 = .ok (.getfield 23, 3) := by decide +kernel
theorem dX12_levelThen_60 : decode cX12_levelThen 60 = .ok (.iload_n 1, 1) := by decide +kernel
theorem dX12_levelThen_61 : decode cX12_levelThen 61 = .ok (.iaload, 1) := by decide +kernel
theorem dX12_levelThen_62 : decode cX12_levelThen 62 = .ok (.iconst 1, 1) := by decide +kernel
theorem dX12_levelThen_63 : decode cX12_levelThen 63 = .ok (.iadd, 1) := by decide +kernel
theorem dX12_levelThen_64 : decode cX12_levelThen 64 = .ok (.goto 27, 3) := by decide +kernel
theorem dX12_levelThen_67 : decode cX12_levelThen 67 = .ok (.aload_n 0, 1) := by decide +kernel
theorem dX12_levelThen_68 : decode cX12_levelThen 68 = .ok (.getfield 89, 3) := by decide +kernel
theorem dX12_levelThen_71 : decode cX12_levelThen 71 = .ok (.iload_n 1, 1) := by decide +kernel
theorem dX12_levelThen_72 : decode cX12_levelThen 72 = .ok (.baload, 1) := by decide +kernel
theorem dX12_levelThen_73 : decode cX12_levelThen 73 = .ok (.ifCond .eq 12, 3) := by decide +kernel
theorem dX12_levelThen_76 : decode cX12_levelThen 76 = .ok (.aload_n 0, 1) := by decide +kernel
theorem dX12_levelThen_77 : decode cX12_levelThen 77 = .ok (.getfield 260, 3) := by decide +kernel
theorem dX12_levelThen_80 : decode cX12_levelThen 80 = .ok (.iconst 1, 1) := by decide +kernel
theorem dX12_levelThen_81 : decode cX12_levelThen 81 = .ok (.isub, 1) := by decide +kernel
theorem dX12_levelThen_82 : decode cX12_levelThen 82 = .ok (.goto 9, 3) := by decide +kernel
theorem dX12_levelThen_85 : decode cX12_levelThen 85 = .ok (.aload_n 0, 1) := by decide +kernel
theorem dX12_levelThen_86 : decode cX12_levelThen 86 = .ok (.getfield 23, 3) := by decide +kernel
theorem dX12_levelThen_89 : decode cX12_levelThen 89 = .ok (.iload_n 1, 1) := by decide +kernel
theorem dX12_levelThen_90 : decode cX12_levelThen 90 = .ok (.iaload, 1) := by decide +kernel
theorem dX12_levelThen_91 : decode cX12_levelThen 91 = .ok (.ireturn, 1) := by decide +kernel
theorem dX12_close_0 : decode cX12_close 0 = .ok (.aload_n 0, 1) := by decide +kernel
theorem dX12_close_1 : decode cX12_close 1 = .ok (.invokevirtual 361, 3) := by decide +kernel
theorem dX12_close_4 : decode cX12_close 4 = .ok (.ifCond .ne 5, 3) := by decide +kernel
theorem dX12_close_7 : decode cX12_close 7 = .ok (.iconst (-1), 1) := by decide +kernel
theorem dX12_close_8 : decode cX12_close 8 = .ok (.ireturn, 1) := by decide +kernel
theorem dX12_close_9 : decode cX12_close 9 = .ok (.iconst 0, 1) := by decide +kernel
theorem dX12_close_10 : decode cX12_close 10 = .ok (.istore_n 1, 1) := by decide +kernel
theorem dX12_close_11 : decode cX12_close 11 = .ok (.iconst 0, 1) := by decide +kernel
theorem dX12_close_12 : decode cX12_close 12 = .ok (.istore_n 2, 1) := by decide +kernel
theorem dX12_close_13 : decode cX12_close 13 = .ok (.iload_n 2, 1) := by decide +kernel
theorem dX12_close_14 : decode cX12_close 14 = .ok (.aload_n 0, 1) := by decide +kernel
theorem dX12_close_15 : decode cX12_close 15 = .ok (.getfield 263, 3) := by decide +kernel
theorem dX12_close_18 : decode cX12_close 18 = .ok (.if_icmp .ge 41, 3) := by decide +kernel
theorem dX12_close_21 : decode cX12_close 21 = .ok (.aload_n 0, 1) := by decide +kernel
theorem dX12_close_22 : decode cX12_close 22 = .ok (.iload_n 2, 1) := by decide +kernel
theorem dX12_close_23 : decode cX12_close 23 = .ok (.invokevirtual 364, 3) := by decide +kernel
theorem dX12_close_26 : decode cX12_close 26 = .ok (.istore_n 3, 1) := by decide +kernel
theorem dX12_close_27 : decode cX12_close 27 = .ok (.iload_n 1, 1) := by decide +kernel
theorem dX12_close_28 : decode cX12_close 28 = .ok (.aload_n 0, 1) := by decide +kernel
theorem dX12_close_29 : decode cX12_close 29 = .ok (.getfield 82, 3) := by decide +kernel
theorem dX12_close_32 : decode cX12_close 32 = .ok (.iload_n 2, 1) := by decide +kernel
theorem dX12_close_33 : decode cX12_close 33 = .ok (.baload, 1) := by decide +kernel
theorem dX12_close_34 : decode cX12_close 34 = .ok (.invokestatic 235, 3) := by decide +kernel
theorem dX12_close_37 : decode cX12_close 37 = .ok (.iadd, 1) := by decide +kernel
theorem dX12_close_38 : decode cX12_close 38 = .ok (.istore_n 1, 1) := by decide +kernel
theorem dX12_close_39 : decode cX12_close 39 = .ok (.aload_n 0, 1) := by decide +kernel
theorem dX12_close_40 : decode cX12_close 40 = .ok (.getfield 23, 3) := by decide +kernel
theorem dX12_close_43 : decode cX12_close 43 = .ok (.iload_n 2, 1) := by decide +kernel
theorem dX12_close_44 : decode cX12_close 44 = .ok (.iload_n 3, 1) := by decide +kernel
theorem dX12_close_45 : decode cX12_close 45 = .ok (.iastore, 1) := by decide +kernel
theorem dX12_close_46 : decode cX12_close 46 = .ok (.aload_n 0, 1) := by decide +kernel
theorem dX12_close_47 : decode cX12_close 47 = .ok (.getfield 26, 3) := by decide +kernel
theorem dX12_close_50 : decode cX12_close 50 = .ok (.iload_n 2, 1) := by decide +kernel
theorem dX12_close_51 : decode cX12_close 51 = .ok (.iconst (-1), 1) := by decide +kernel
theorem dX12_close_52 : decode cX12_close 52 = .ok (.iastore, 1) := by decide +kernel
theorem dX12_close_53 : decode cX12_close 53 = .ok (.iinc 2 1, 3) := by decide +kernel
theorem dX12_close_56 : decode cX12_close 56 = .ok (.goto (-43), 3) := by decide +kernel
theorem dX12_close_59 : decode cX12_close 59 = .ok (.iconst 0, 1) := by decide +kernel
theorem dX12_close_60 : decode cX12_close 60 = .ok (.istore_n 2, 1) := by decide +kernel
theorem dX12_close_61 : decode cX12_close 61 = .ok (.iload_n 2, 1) := by decide +kernel
theorem dX12_close_62 : decode cX12_close 62 = .ok (.aload_n 0, 1) := by decide +kernel
theorem dX12_close_63 : decode cX12_close 63 = .ok (.getfield 260, 3) := by decide +kernel
theorem dX12_close_66 : decode cX12_close 66 = .ok (.if_icmp .ge 47, 3) := by decide +kernel
theorem dX12_close_69 : decode cX12_close 69 = .ok (.aload_n 0, 1) := by decide +kernel
theorem dX12_close_70 : decode cX12_close 70 = .ok (.iload_n 2, 1) := by decide +kernel
theorem dX12_close_71 : decode cX12_close 71 = .ok (.invokevirtual 367, 3) := by decide +kernel
theorem dX12_close_74 : decode cX12_close 74 = .ok (.iconst 0, 1) := by decide +kernel
theorem dX12_close_75 : decode cX12_close 75 = .ok (.istore_n 3, 1) := by decide +kernel
theorem dX12_close_76 : decode cX12_close 76 = .ok (.iload_n 3, 1) := by decide +kernel
theorem dX12_close_77 : decode cX12_close 77 = .ok (.aload_n 0, 1) := by decide +kernel
theorem dX12_close_78 : decode cX12_close 78 = .ok (.getfield 326, 3) := by decide +kernel
theorem dX12_close_81 : decode cX12_close 81 = .ok (.if_icmp .ge 26, 3) := by decide +kernel
theorem dX12_close_84 : decode cX12_close 84 = .ok (.aload_n 0, 1) := by decide +kernel
theorem dX12_close_85 : decode cX12_close 85 = .ok (.getfield 26, 3) := by decide +kernel
theorem dX12_close_88 : decode cX12_close 88 = .ok (.aload_n 0, 1) := by decide +kernel
theorem dX12_close_89 : decode cX12_close 89 = .ok (.getfield 70, 3) := by decide +kernel
theorem dX12_close_92 : decode cX12_close 92 = .ok (.iload_n 3, 1) := by decide +kernel
theorem dX12_close_93 : decode cX12_close 93 = .ok (.iaload, 1) := by decide +kernel
theorem dX12_close_94 : decode cX12_close 94 = .ok (.aload_n 0, 1) := by decide +kernel
theorem dX12_close_95 : decode cX12_close 95 = .ok (.getfield 79, 3) := by decide +kernel
theorem dX12_close_98 : decode cX12_close 98 = .ok (.iload_n 3, 1) := by decide +kernel
theorem dX12_close_99 : decode cX12_close 99 = .ok (.iaload, 1) := by decide +kernel
theorem dX12_close_100 : decode cX12_close 100 = .ok (.iastore, 1) := by decide +kernel
theorem dX12_close_101 : decode cX12_close 101 = .ok (.iinc 3 1, 3) := by decide +kernel
theorem dX12_close_104 : decode cX12_close 104 = .ok (.goto (-28), 3) := by decide +kernel
theorem dX12_close_107 : decode cX12_close 107 = .ok (.iinc 2 1, 3) := by decide +kernel
theorem dX12_close_110 : decode cX12_close 110 = .ok (.goto (-49), 3) := by decide +kernel
theorem dX12_close_113 : decode cX12_close 113 = .ok (.aload_n 0, 1) := by decide +kernel
theorem dX12_close_114 : decode cX12_close 114 = .ok (.invokevirtual 269, 3) := by decide +kernel
theorem dX12_close_117 : decode cX12_close 117 = .ok (.aload_n 0, 1) := by decide +kernel
theorem dX12_close_118 : decode cX12_close 118 = .ok (.dup, 1) := by decide +kernel
theorem dX12_close_119 : decode cX12_close 119 = .ok (.getfield 266, 3) := by decide +kernel
theorem dX12_close_122 : decode cX12_close 122 = .ok (.iconst 1, 1) := by decide +kernel
theorem dX12_close_123 : decode cX12_close 123 = .ok (.iadd, 1) := by decide +kernel
theorem dX12_close_124 : decode cX12_close 124 = .ok (.putfield 266, 3) := by decide +kernel
theorem dX12_close_127 : decode cX12_close 127 = .ok (.iload_n 1, 1) := by decide +kernel
theorem dX12_close_128 : decode cX12_close 128 = .ok (.ireturn, 1) := by decide +kernel
theorem dX12_club_0 : decode cX12_club 0 = .ok (.aload_n 0, 1) := by decide +kernel
theorem dX12_club_1 : decode cX12_club 1 = .ok (.iload_n 1, 1) := by decide +kernel
theorem dX12_club_2 : decode cX12_club 2 = .ok (.invokevirtual 284, 3) := by decide +kernel
theorem dX12_club_5 : decode cX12_club 5 = .ok (.ifCond .ne 6, 3) := by decide +kernel
theorem dX12_club_8 : decode cX12_club 8 = .ok (.bipush (-3), 2) := by decide +kernel
theorem dX12_club_10 : decode cX12_club 10 = .ok (.ireturn, 1) := by decide +kernel
theorem dX12_club_11 : decode cX12_club 11 = .ok (.iload_n 2, 1) := by decide +kernel
theorem dX12_club_12 : decode cX12_club 12 = .ok (.tableswitch 115 0 7 #[48, 55, 62, 71, 78, 85, 95, 105], 48) := by decide +kernel
theorem dX12_club_60 : decode cX12_club 60 = .ok (.aload_n 0, 1) := by decide +kernel
theorem dX12_club_61 : decode cX12_club 61 = .ok (.getfield 17, 3) := by decide +kernel
theorem dX12_club_64 : decode cX12_club 64 = .ok (.iload_n 1, 1) := by decide +kernel
theorem dX12_club_65 : decode cX12_club 65 = .ok (.iaload, 1) := by decide +kernel
theorem dX12_club_66 : decode cX12_club 66 = .ok (.ireturn, 1) := by decide +kernel
theorem dX12_club_67 : decode cX12_club 67 = .ok (.aload_n 0, 1) := by decide +kernel
theorem dX12_club_68 : decode cX12_club 68 = .ok (.getfield 20, 3) := by decide +kernel
theorem dX12_club_71 : decode cX12_club 71 = .ok (.iload_n 1, 1) := by decide +kernel
theorem dX12_club_72 : decode cX12_club 72 = .ok (.iaload, 1) := by decide +kernel
theorem dX12_club_73 : decode cX12_club 73 = .ok (.ireturn, 1) := by decide +kernel
theorem dX12_club_74 : decode cX12_club 74 = .ok (.aload_n 0, 1) := by decide +kernel
theorem dX12_club_75 : decode cX12_club 75 = .ok (.getfield 32, 3) := by decide +kernel
theorem dX12_club_78 : decode cX12_club 78 = .ok (.iconst 0, 1) := by decide +kernel
theorem dX12_club_79 : decode cX12_club 79 = .ok (.iload_n 1, 1) := by decide +kernel
theorem dX12_club_80 : decode cX12_club 80 = .ok (.iadd, 1) := by decide +kernel
theorem dX12_club_81 : decode cX12_club 81 = .ok (.iaload, 1) := by decide +kernel
theorem dX12_club_82 : decode cX12_club 82 = .ok (.ireturn, 1) := by decide +kernel
theorem dX12_club_83 : decode cX12_club 83 = .ok (.aload_n 0, 1) := by decide +kernel
theorem dX12_club_84 : decode cX12_club 84 = .ok (.getfield 23, 3) := by decide +kernel
theorem dX12_club_87 : decode cX12_club 87 = .ok (.iload_n 1, 1) := by decide +kernel
theorem dX12_club_88 : decode cX12_club 88 = .ok (.iaload, 1) := by decide +kernel
theorem dX12_club_89 : decode cX12_club 89 = .ok (.ireturn, 1) := by decide +kernel
theorem dX12_club_90 : decode cX12_club 90 = .ok (.aload_n 0, 1) := by decide +kernel
theorem dX12_club_91 : decode cX12_club 91 = .ok (.getfield 26, 3) := by decide +kernel
theorem dX12_club_94 : decode cX12_club 94 = .ok (.iload_n 1, 1) := by decide +kernel
theorem dX12_club_95 : decode cX12_club 95 = .ok (.iaload, 1) := by decide +kernel
theorem dX12_club_96 : decode cX12_club 96 = .ok (.ireturn, 1) := by decide +kernel
theorem dX12_club_97 : decode cX12_club 97 = .ok (.aload_n 0, 1) := by decide +kernel
theorem dX12_club_98 : decode cX12_club 98 = .ok (.getfield 32, 3) := by decide +kernel
theorem dX12_club_101 : decode cX12_club 101 = .ok (.bipush 30, 2) := by decide +kernel
theorem dX12_club_103 : decode cX12_club 103 = .ok (.iload_n 1, 1) := by decide +kernel
theorem dX12_club_104 : decode cX12_club 104 = .ok (.iadd, 1) := by decide +kernel
theorem dX12_club_105 : decode cX12_club 105 = .ok (.iaload, 1) := by decide +kernel
theorem dX12_club_106 : decode cX12_club 106 = .ok (.ireturn, 1) := by decide +kernel
theorem dX12_club_107 : decode cX12_club 107 = .ok (.aload_n 0, 1) := by decide +kernel
theorem dX12_club_108 : decode cX12_club 108 = .ok (.getfield 32, 3) := by decide +kernel
theorem dX12_club_111 : decode cX12_club 111 = .ok (.bipush 60, 2) := by decide +kernel
theorem dX12_club_113 : decode cX12_club 113 = .ok (.iload_n 1, 1) := by decide +kernel
theorem dX12_club_114 : decode cX12_club 114 = .ok (.iadd, 1) := by decide +kernel
theorem dX12_club_115 : decode cX12_club 115 = .ok (.iaload, 1) := by decide +kernel
theorem dX12_club_116 : decode cX12_club 116 = .ok (.ireturn, 1) := by decide +kernel
theorem dX12_club_117 : decode cX12_club 117 = .ok (.aload_n 0, 1) := by decide +kernel
theorem dX12_club_118 : decode cX12_club 118 = .ok (.getfield 32, 3) := by decide +kernel
theorem dX12_club_121 : decode cX12_club 121 = .ok (.bipush 90, 2) := by decide +kernel
theorem dX12_club_123 : decode cX12_club 123 = .ok (.iload_n 1, 1) := by decide +kernel
theorem dX12_club_124 : decode cX12_club 124 = .ok (.iadd, 1) := by decide +kernel
theorem dX12_club_125 : decode cX12_club 125 = .ok (.iaload, 1) := by decide +kernel
theorem dX12_club_126 : decode cX12_club 126 = .ok (.ireturn, 1) := by decide +kernel
theorem dX12_club_127 : decode cX12_club 127 = .ok (.bipush (-3), 2) := by decide +kernel
theorem dX12_club_129 : decode cX12_club 129 = .ok (.ireturn, 1) := by decide +kernel
theorem dX12_of_0 : decode cX12_of 0 = .ok (.aload_n 0, 1) := by decide +kernel
theorem dX12_of_1 : decode cX12_of 1 = .ok (.iload_n 1, 1) := by decide +kernel
theorem dX12_of_2 : decode cX12_of 2 = .ok (.invokevirtual 287, 3) := by decide +kernel
theorem dX12_of_5 : decode cX12_of 5 = .ok (.ifCond .eq 15, 3) := by decide +kernel
theorem dX12_of_8 : decode cX12_of 8 = .ok (.iload_n 2, 1) := by decide +kernel
theorem dX12_of_9 : decode cX12_of 9 = .ok (.i2l, 1) := by decide +kernel
theorem dX12_of_10 : decode cX12_of 10 = .ok (.lconst 0, 1) := by decide +kernel
theorem dX12_of_11 : decode cX12_of 11 = .ok (.ldc2_w 370, 3) := by decide +kernel
theorem dX12_of_14 : decode cX12_of 14 = .ok (.invokestatic 120, 3) := by decide +kernel
theorem dX12_of_17 : decode cX12_of 17 = .ok (.ifCond .ne 5, 3) := by decide +kernel
theorem dX12_of_20 : decode cX12_of 20 = .ok (.iconst (-1), 1) := by decide +kernel
theorem dX12_of_21 : decode cX12_of 21 = .ok (.ireturn, 1) := by decide +kernel
theorem dX12_of_22 : decode cX12_of 22 = .ok (.iload_n 2, 1) := by decide +kernel
theorem dX12_of_23 : decode cX12_of 23 = .ok (.iconst 5, 1) := by decide +kernel
theorem dX12_of_24 : decode cX12_of 24 = .ok (.if_icmp .ge 10, 3) := by decide +kernel
theorem dX12_of_27 : decode cX12_of 27 = .ok (.aload_n 0, 1) := by decide +kernel
theorem dX12_of_28 : decode cX12_of 28 = .ok (.iload_n 1, 1) := by decide +kernel
theorem dX12_of_29 : decode cX12_of 29 = .ok (.iload_n 2, 1) := by decide +kernel
theorem dX12_of_30 : decode cX12_of 30 = .ok (.invokevirtual 301, 3) := by decide +kernel
theorem dX12_of_33 : decode cX12_of 33 = .ok (.ireturn, 1) := by decide +kernel
theorem dX12_of_34 : decode cX12_of 34 = .ok (.iload_n 2, 1) := by decide +kernel
theorem dX12_of_35 : decode cX12_of 35 = .ok (.bipush 7, 2) := by decide +kernel
theorem dX12_of_37 : decode cX12_of 37 = .ok (.if_icmp .ne 21, 3) := by decide +kernel
theorem dX12_of_40 : decode cX12_of 40 = .ok (.aload_n 0, 1) := by decide +kernel
theorem dX12_of_41 : decode cX12_of 41 = .ok (.iload_n 1, 1) := by decide +kernel
theorem dX12_of_42 : decode cX12_of 42 = .ok (.aload_n 0, 1) := by decide +kernel
theorem dX12_of_43 : decode cX12_of 43 = .ok (.getfield 23, 3) := by decide +kernel
theorem dX12_of_46 : decode cX12_of 46 = .ok (.iload_n 1, 1) := by decide +kernel
theorem dX12_of_47 : decode cX12_of 47 = .ok (.iaload, 1) := by decide +kernel
theorem dX12_of_48 : decode cX12_of 48 = .ok (.aload_n 0, 1) := by decide +kernel
theorem dX12_of_49 : decode cX12_of 49 = .ok (.getfield 26, 3) := by decide +kernel
theorem dX12_of_52 : decode cX12_of 52 = .ok (.iload_n 1, 1) := by decide +kernel
theorem dX12_of_53 : decode cX12_of 53 = .ok (.iaload, 1) := by decide +kernel
theorem dX12_of_54 : decode cX12_of 54 = .ok (.invokevirtual 323, 3) := by decide +kernel
theorem dX12_of_57 : decode cX12_of 57 = .ok (.ireturn, 1) := by decide +kernel
theorem dX12_of_58 : decode cX12_of 58 = .ok (.aload_n 0, 1) := by decide +kernel
theorem dX12_of_59 : decode cX12_of 59 = .ok (.invokevirtual 345, 3) := by decide +kernel
theorem dX12_of_62 : decode cX12_of 62 = .ok (.iload_n 2, 1) := by decide +kernel
theorem dX12_of_63 : decode cX12_of 63 = .ok (.iconst 5, 1) := by decide +kernel
theorem dX12_of_64 : decode cX12_of 64 = .ok (.if_icmp .ne 10, 3) := by decide +kernel
theorem dX12_of_67 : decode cX12_of 67 = .ok (.aload_n 0, 1) := by decide +kernel
theorem dX12_of_68 : decode cX12_of 68 = .ok (.getfield 57, 3) := by decide +kernel
theorem dX12_of_71 : decode cX12_of 71 = .ok (.iload_n 1, 1) := by decide +kernel
theorem dX12_of_72 : decode cX12_of 72 = .ok (.iaload, 1) := by decide +kernel
theorem dX12_of_73 : decode cX12_of 73 = .ok (.ireturn, 1) := by decide +kernel
theorem dX12_of_74 : decode cX12_of 74 = .ok (.iconst 0, 1) := by decide +kernel
theorem dX12_of_75 : decode cX12_of 75 = .ok (.istore_n 3, 1) := by decide +kernel
theorem dX12_of_76 : decode cX12_of 76 = .ok (.aload_n 0, 1) := by decide +kernel
theorem dX12_of_77 : decode cX12_of 77 = .ok (.getfield 64, 3) := by decide +kernel
theorem dX12_of_80 : decode cX12_of 80 = .ok (.bipush 12, 2) := by decide +kernel
theorem dX12_of_82 : decode cX12_of 82 = .ok (.aload_n 0, 1) := by decide +kernel
theorem dX12_of_83 : decode cX12_of 83 = .ok (.getfield 23, 3) := by decide +kernel
theorem dX12_of_86 : decode cX12_of 86 = .ok (.iload_n 1, 1) := by decide +kernel
theorem dX12_of_87 : decode cX12_of 87 = .ok (.iaload, 1) := by decide +kernel
theorem dX12_of_88 : decode cX12_of 88 = .ok (.imul, 1) := by decide +kernel
theorem dX12_of_89 : decode cX12_of 89 = .ok (.iload_n 3, 1) := by decide +kernel
theorem dX12_of_90 : decode cX12_of 90 = .ok (.iadd, 1) := by decide +kernel
theorem dX12_of_91 : decode cX12_of 91 = .ok (.iaload, 1) := by decide +kernel
theorem dX12_of_92 : decode cX12_of 92 = .ok (.iload_n 1, 1) := by decide +kernel
theorem dX12_of_93 : decode cX12_of 93 = .ok (.if_icmp .eq 9, 3) := by decide +kernel
theorem dX12_of_96 : decode cX12_of 96 = .ok (.iinc 3 1, 3) := by decide +kernel
theorem dX12_of_99 : decode cX12_of 99 = .ok (.goto (-23), 3) := by decide +kernel
theorem dX12_of_102 : decode cX12_of 102 = .ok (.iload_n 3, 1) := by decide +kernel
theorem dX12_of_103 : decode cX12_of 103 = .ok (.ireturn, 1) := by decide +kernel
theorem dX12_points_0 : decode cX12_points 0 = .ok (.aload_n 0, 1) := by decide +kernel
theorem dX12_points_1 : decode cX12_points 1 = .ok (.iload_n 1, 1) := by decide +kernel
theorem dX12_points_2 : decode cX12_points 2 = .ok (.invokevirtual 287, 3) := by decide +kernel
theorem dX12_points_5 : decode cX12_points 5 = .ok (.ifCond .eq 11, 3) := by decide +kernel
theorem dX12_points_8 : decode cX12_points 8 = .ok (.aload_n 0, 1) := by decide +kernel
theorem dX12_points_9 : decode cX12_points 9 = .ok (.iload_n 1, 1) := by decide +kernel
theorem dX12_points_10 : decode cX12_points 10 = .ok (.invokevirtual 304, 3) := by decide +kernel
theorem dX12_points_13 : decode cX12_points 13 = .ok (.goto 6, 3) := by decide +kernel
theorem dX12_points_16 : decode cX12_points 16 = .ok (.ldc_w 374, 3) := by decide +kernel
theorem dX12_points_19 : decode cX12_points 19 = .ok (.ireturn, 1) := by decide +kernel
theorem dX12_average_0 : decode cX12_average 0 = .ok (.aload_n 0, 1) := by decide +kernel
theorem dX12_average_1 : decode cX12_average 1 = .ok (.iload_n 1, 1) := by decide +kernel
theorem dX12_average_2 : decode cX12_average 2 = .ok (.invokevirtual 287, 3) := by decide +kernel
theorem dX12_average_5 : decode cX12_average 5 = .ok (.ifCond .eq 14, 3) := by decide +kernel
theorem dX12_average_8 : decode cX12_average 8 = .ok (.aload_n 0, 1) := by decide +kernel
theorem dX12_average_9 : decode cX12_average 9 = .ok (.iload_n 1, 1) := by decide +kernel
theorem dX12_average_10 : decode cX12_average 10 = .ok (.invokevirtual 307, 3) := by decide +kernel
theorem dX12_average_13 : decode cX12_average 13 = .ok (.invokestatic 375, 3) := by decide +kernel
theorem dX12_average_16 : decode cX12_average 16 = .ok (.goto 4, 3) := by decide +kernel
theorem dX12_average_19 : decode cX12_average 19 = .ok (.iconst (-1), 1) := by decide +kernel
theorem dX12_average_20 : decode cX12_average 20 = .ok (.ireturn, 1) := by decide +kernel
theorem dX12_isLevel_0 : decode cX12_isLevel 0 = .ok (.iload_n 1, 1) := by decide +kernel
theorem dX12_isLevel_1 : decode cX12_isLevel 1 = .ok (.i2l, 1) := by decide +kernel
theorem dX12_isLevel_2 : decode cX12_isLevel 2 = .ok (.lconst 0, 1) := by decide +kernel
theorem dX12_isLevel_3 : decode cX12_isLevel 3 = .ok (.aload_n 0, 1) := by decide +kernel
theorem dX12_isLevel_4 : decode cX12_isLevel 4 = .ok (.getfield 260, 3) := by decide +kernel
theorem dX12_isLevel_7 : decode cX12_isLevel 7 = .ok (.iconst 1, 1) := by decide +kernel
theorem dX12_isLevel_8 : decode cX12_isLevel 8 = .ok (.isub, 1) := by decide +kernel
theorem dX12_isLevel_9 : decode cX12_isLevel 9 = .ok (.i2l, 1) := by decide +kernel
theorem dX12_isLevel_10 : decode cX12_isLevel 10 = .ok (.invokestatic 120, 3) := by decide +kernel
theorem dX12_isLevel_13 : decode cX12_isLevel 13 = .ok (.ireturn, 1) := by decide +kernel
theorem dX12_isDivision_0 : decode cX12_isDivision 0 = .ok (.aload_n 0, 1) := by decide +kernel
theorem dX12_isDivision_1 : decode cX12_isDivision 1 = .ok (.iload_n 1, 1) := by decide +kernel
theorem dX12_isDivision_2 : decode cX12_isDivision 2 = .ok (.invokevirtual 381, 3) := by decide +kernel
theorem dX12_isDivision_5 : decode cX12_isDivision 5 = .ok (.ifCond .eq 29, 3) := by decide +kernel
theorem dX12_isDivision_8 : decode cX12_isDivision 8 = .ok (.iload_n 2, 1) := by decide +kernel
theorem dX12_isDivision_9 : decode cX12_isDivision 9 = .ok (.i2l, 1) := by decide +kernel
theorem dX12_isDivision_10 : decode cX12_isDivision 10 = .ok (.lconst 0, 1) := by decide +kernel
theorem dX12_isDivision_11 : decode cX12_isDivision 11 = .ok (.aload_n 0, 1) := by decide +kernel
theorem dX12_isDivision_12 : decode cX12_isDivision 12 = .ok (.getfield 7, 3) := by decide +kernel
theorem dX12_isDivision_15 : decode cX12_isDivision 15 = .ok (.iconst 4, 1) := by decide +kernel
theorem dX12_isDivision_16 : decode cX12_isDivision 16 = .ok (.iload_n 1, 1) := by decide +kernel
theorem dX12_isDivision_17 : decode cX12_isDivision 17 = .ok (.imul, 1) := by decide +kernel
theorem dX12_isDivision_18 : decode cX12_isDivision 18 = .ok (.iconst 0, 1) := by decide +kernel
theorem dX12_isDivision_19 : decode cX12_isDivision 19 = .ok (.iadd, 1) := by decide +kernel
theorem dX12_isDivision_20 : decode cX12_isDivision 20 = .ok (.iaload, 1) := by decide +kernel
theorem dX12_isDivision_21 : decode cX12_isDivision 21 = .ok (.iconst 1, 1) := by decide +kernel
theorem dX12_isDivision_22 : decode cX12_isDivision 22 = .ok (.isub, 1) := by decide +kernel
theorem dX12_isDivision_23 : decode cX12_isDivision 23 = .ok (.i2l, 1) := by decide +kernel
theorem dX12_isDivision_24 : decode cX12_isDivision 24 = .ok (.invokestatic 120, 3) := by decide +kernel
theorem dX12_isDivision_27 : decode cX12_isDivision 27 = .ok (.ifCond .eq 7, 3) := by decide +kernel
theorem dX12_isDivision_30 : decode cX12_isDivision 30 = .ok (.iconst 1, 1) := by decide +kernel
theorem dX12_isDivision_31 : decode cX12_isDivision 31 = .ok (.goto 4, 3) := by decide +kernel
theorem dX12_isDivision_34 : decode cX12_isDivision 34 = .ok (.iconst 0, 1) := by decide +kernel
theorem dX12_isDivision_35 : decode cX12_isDivision 35 = .ok (.ireturn, 1) := by decide +kernel
theorem dX12_ranked_0 : decode cX12_ranked 0 = .ok (.aload_n 0, 1) := by decide +kernel
theorem dX12_ranked_1 : decode cX12_ranked 1 = .ok (.iload_n 1, 1) := by decide +kernel
theorem dX12_ranked_2 : decode cX12_ranked 2 = .ok (.iload_n 2, 1) := by decide +kernel
theorem dX12_ranked_3 : decode cX12_ranked 3 = .ok (.invokevirtual 384, 3) := by decide +kernel
theorem dX12_ranked_6 : decode cX12_ranked 6 = .ok (.ifCond .ne 5, 3) := by decide +kernel
theorem dX12_ranked_9 : decode cX12_ranked 9 = .ok (.iconst (-1), 1) := by decide +kernel
theorem dX12_ranked_10 : decode cX12_ranked 10 = .ok (.ireturn, 1) := by decide +kernel
theorem dX12_ranked_11 : decode cX12_ranked 11 = .ok (.aload_n 0, 1) := by decide +kernel
theorem dX12_ranked_12 : decode cX12_ranked 12 = .ok (.invokevirtual 314, 3) := by decide +kernel
theorem dX12_ranked_15 : decode cX12_ranked 15 = .ok (.iconst 0, 1) := by decide +kernel
theorem dX12_ranked_16 : decode cX12_ranked 16 = .ok (.istore 4, 2) := by decide +kernel
theorem dX12_ranked_18 : decode cX12_ranked 18 = .ok (.iload 4, 2) := by decide +kernel
theorem dX12_ranked_20 : decode cX12_ranked 20 = .ok (.aload_n 0, 1) := by decide +kernel
theorem dX12_ranked_21 : decode cX12_ranked 21 = .ok (.getfield 263, 3) := by decide +kernel
theorem dX12_ranked_24 : decode cX12_ranked 24 = .ok (.if_icmp .ge 45, 3) := by decide +kernel
theorem dX12_ranked_27 : decode cX12_ranked 27 = .ok (.aload_n 0, 1) := by decide +kernel
theorem dX12_ranked_28 : decode cX12_ranked 28 = .ok (.getfield 23, 3) := by decide +kernel
theorem dX12_ranked_31 : decode cX12_ranked 31 = .ok (.iload 4, 2) := by decide +kernel
theorem dX12_ranked_33 : decode cX12_ranked 33 = .ok (.iaload, 1) := by decide +kernel
theorem dX12_ranked_34 : decode cX12_ranked 34 = .ok (.iload_n 1, 1) := by decide +kernel
theorem dX12_ranked_35 : decode cX12_ranked 35 = .ok (.if_icmp .ne 28, 3) := by decide +kernel
theorem dX12_ranked_38 : decode cX12_ranked 38 = .ok (.aload_n 0, 1) := by decide +kernel
theorem dX12_ranked_39 : decode cX12_ranked 39 = .ok (.getfield 26, 3) := by decide +kernel
theorem dX12_ranked_42 : decode cX12_ranked 42 = .ok (.iload 4, 2) := by decide +kernel
theorem dX12_ranked_44 : decode cX12_ranked 44 = .ok (.iaload, 1) := by decide +kernel
theorem dX12_ranked_45 : decode cX12_ranked 45 = .ok (.iload_n 2, 1) := by decide +kernel
theorem dX12_ranked_46 : decode cX12_ranked 46 = .ok (.if_icmp .ne 17, 3) := by decide +kernel
theorem dX12_ranked_49 : decode cX12_ranked 49 = .ok (.aload_n 0, 1) := by decide +kernel
theorem dX12_ranked_50 : decode cX12_ranked 50 = .ok (.getfield 57, 3) := by decide +kernel
theorem dX12_ranked_53 : decode cX12_ranked 53 = .ok (.iload 4, 2) := by decide +kernel
theorem dX12_ranked_55 : decode cX12_ranked 55 = .ok (.iaload, 1) := by decide +kernel
theorem dX12_ranked_56 : decode cX12_ranked 56 = .ok (.iload_n 3, 1) := by decide +kernel
theorem dX12_ranked_57 : decode cX12_ranked 57 = .ok (.if_icmp .ne 6, 3) := by decide +kernel
theorem dX12_ranked_60 : decode cX12_ranked 60 = .ok (.iload 4, 2) := by decide +kernel
theorem dX12_ranked_62 : decode cX12_ranked 62 = .ok (.ireturn, 1) := by decide +kernel
theorem dX12_ranked_63 : decode cX12_ranked 63 = .ok (.iinc 4 1, 3) := by decide +kernel
theorem dX12_ranked_66 : decode cX12_ranked 66 = .ok (.goto (-48), 3) := by decide +kernel
theorem dX12_ranked_69 : decode cX12_ranked 69 = .ok (.iconst (-1), 1) := by decide +kernel
theorem dX12_ranked_70 : decode cX12_ranked 70 = .ok (.ireturn, 1) := by decide +kernel
theorem dX12_order_0 : decode cX12_order 0 = .ok (.aload_n 0, 1) := by decide +kernel
theorem dX12_order_1 : decode cX12_order 1 = .ok (.iload_n 1, 1) := by decide +kernel
theorem dX12_order_2 : decode cX12_order 2 = .ok (.invokevirtual 381, 3) := by decide +kernel
theorem dX12_order_5 : decode cX12_order 5 = .ok (.ifCond .ne 5, 3) := by decide +kernel
theorem dX12_order_8 : decode cX12_order 8 = .ok (.iconst (-1), 1) := by decide +kernel
theorem dX12_order_9 : decode cX12_order 9 = .ok (.ireturn, 1) := by decide +kernel
theorem dX12_order_10 : decode cX12_order 10 = .ok (.aload_n 0, 1) := by decide +kernel
theorem dX12_order_11 : decode cX12_order 11 = .ok (.invokevirtual 345, 3) := by decide +kernel
theorem dX12_order_14 : decode cX12_order 14 = .ok (.iload_n 2, 1) := by decide +kernel
theorem dX12_order_15 : decode cX12_order 15 = .ok (.i2l, 1) := by decide +kernel
theorem dX12_order_16 : decode cX12_order 16 = .ok (.lconst 0, 1) := by decide +kernel
theorem dX12_order_17 : decode cX12_order 17 = .ok (.aload_n 0, 1) := by decide +kernel
theorem dX12_order_18 : decode cX12_order 18 = .ok (.getfield 67, 3) := by decide +kernel
theorem dX12_order_21 : decode cX12_order 21 = .ok (.iload_n 1, 1) := by decide +kernel
theorem dX12_order_22 : decode cX12_order 22 = .ok (.iaload, 1) := by decide +kernel
theorem dX12_order_23 : decode cX12_order 23 = .ok (.iconst 1, 1) := by decide +kernel
theorem dX12_order_24 : decode cX12_order 24 = .ok (.isub, 1) := by decide +kernel
theorem dX12_order_25 : decode cX12_order 25 = .ok (.i2l, 1) := by decide +kernel
theorem dX12_order_26 : decode cX12_order 26 = .ok (.invokestatic 120, 3) := by decide +kernel
theorem dX12_order_29 : decode cX12_order 29 = .ok (.ifCond .eq 17, 3) := by decide +kernel
theorem dX12_order_32 : decode cX12_order 32 = .ok (.aload_n 0, 1) := by decide +kernel
theorem dX12_order_33 : decode cX12_order 33 = .ok (.getfield 64, 3) := by decide +kernel
theorem dX12_order_36 : decode cX12_order 36 = .ok (.bipush 12, 2) := by decide +kernel
theorem dX12_order_38 : decode cX12_order 38 = .ok (.iload_n 1, 1) := by decide +kernel
theorem dX12_order_39 : decode cX12_order 39 = .ok (.imul, 1) := by decide +kernel
theorem dX12_order_40 : decode cX12_order 40 = .ok (.iload_n 2, 1) := by decide +kernel
theorem dX12_order_41 : decode cX12_order 41 = .ok (.iadd, 1) := by decide +kernel
theorem dX12_order_42 : decode cX12_order 42 = .ok (.iaload, 1) := by decide +kernel
theorem dX12_order_43 : decode cX12_order 43 = .ok (.goto 4, 3) := by decide +kernel
theorem dX12_order_46 : decode cX12_order 46 = .ok (.iconst (-1), 1) := by decide +kernel
theorem dX12_order_47 : decode cX12_order 47 = .ok (.ireturn, 1) := by decide +kernel
theorem dX12_level_0 : decode cX12_level 0 = .ok (.aload_n 0, 1) := by decide +kernel
theorem dX12_level_1 : decode cX12_level 1 = .ok (.iload_n 1, 1) := by decide +kernel
theorem dX12_level_2 : decode cX12_level 2 = .ok (.invokevirtual 381, 3) := by decide +kernel
theorem dX12_level_5 : decode cX12_level 5 = .ok (.ifCond .eq 15, 3) := by decide +kernel
theorem dX12_level_8 : decode cX12_level 8 = .ok (.iload_n 2, 1) := by decide +kernel
theorem dX12_level_9 : decode cX12_level 9 = .ok (.i2l, 1) := by decide +kernel
theorem dX12_level_10 : decode cX12_level 10 = .ok (.lconst 0, 1) := by decide +kernel
theorem dX12_level_11 : decode cX12_level 11 = .ok (.ldc2_w 370, 3) := by decide +kernel
theorem dX12_level_14 : decode cX12_level 14 = .ok (.invokestatic 120, 3) := by decide +kernel
theorem dX12_level_17 : decode cX12_level 17 = .ok (.ifCond .ne 5, 3) := by decide +kernel
theorem dX12_level_20 : decode cX12_level 20 = .ok (.iconst (-1), 1) := by decide +kernel
theorem dX12_level_21 : decode cX12_level 21 = .ok (.ireturn, 1) := by decide +kernel
theorem dX12_level_22 : decode cX12_level 22 = .ok (.iload_n 2, 1) := by decide +kernel
theorem dX12_level_23 : decode cX12_level 23 = .ok (.iconst 4, 1) := by decide +kernel
theorem dX12_level_24 : decode cX12_level 24 = .ok (.if_icmp .ge 14, 3) := by decide +kernel
theorem dX12_level_27 : decode cX12_level 27 = .ok (.aload_n 0, 1) := by decide +kernel
theorem dX12_level_28 : decode cX12_level 28 = .ok (.getfield 7, 3) := by decide +kernel
theorem dX12_level_31 : decode cX12_level 31 = .ok (.iconst 4, 1) := by decide +kernel
theorem dX12_level_32 : decode cX12_level 32 = .ok (.iload_n 1, 1) := by decide +kernel
theorem dX12_level_33 : decode cX12_level 33 = .ok (.imul, 1) := by decide +kernel
theorem dX12_level_34 : decode cX12_level 34 = .ok (.iload_n 2, 1) := by decide +kernel
theorem dX12_level_35 : decode cX12_level 35 = .ok (.iadd, 1) := by decide +kernel
theorem dX12_level_36 : decode cX12_level 36 = .ok (.iaload, 1) := by decide +kernel
theorem dX12_level_37 : decode cX12_level 37 = .ok (.ireturn, 1) := by decide +kernel
theorem dX12_level_38 : decode cX12_level 38 = .ok (.aload_n 0, 1) := by decide +kernel
theorem dX12_level_39 : decode cX12_level 39 = .ok (.invokevirtual 348, 3) := by decide +kernel
theorem dX12_level_42 : decode cX12_level 42 = .ok (.iconst 0, 1) := by decide +kernel
theorem dX12_level_43 : decode cX12_level 43 = .ok (.istore_n 3, 1) := by decide +kernel
theorem dX12_level_44 : decode cX12_level 44 = .ok (.iconst 0, 1) := by decide +kernel
theorem dX12_level_45 : decode cX12_level 45 = .ok (.istore 4, 2) := by decide +kernel
theorem dX12_level_47 : decode cX12_level 47 = .ok (.iload 4, 2) := by decide +kernel
theorem dX12_level_49 : decode cX12_level 49 = .ok (.aload_n 0, 1) := by decide +kernel
theorem dX12_level_50 : decode cX12_level 50 = .ok (.getfield 7, 3) := by decide +kernel
theorem dX12_level_53 : decode cX12_level 53 = .ok (.iconst 4, 1) := by decide +kernel
theorem dX12_level_54 : decode cX12_level 54 = .ok (.iload_n 1, 1) := by decide +kernel
theorem dX12_level_55 : decode cX12_level 55 = .ok (.imul, 1) := by decide +kernel
theorem dX12_level_56 : decode cX12_level 56 = .ok (.iconst 0, 1) := by decide +kernel
theorem dX12_level_57 : decode cX12_level 57 = .ok (.iadd, 1) := by decide +kernel
theorem dX12_level_58 : decode cX12_level 58 = .ok (.iaload, 1) := by decide +kernel
theorem dX12_level_59 : decode cX12_level 59 = .ok (.if_icmp .ge 19, 3) := by decide +kernel
theorem dX12_level_62 : decode cX12_level 62 = .ok (.iload_n 3, 1) := by decide +kernel
theorem dX12_level_63 : decode cX12_level 63 = .ok (.aload_n 0, 1) := by decide +kernel
theorem dX12_level_64 : decode cX12_level 64 = .ok (.iload_n 1, 1) := by decide +kernel
theorem dX12_level_65 : decode cX12_level 65 = .ok (.iload 4, 2) := by decide +kernel
theorem dX12_level_67 : decode cX12_level 67 = .ok (.invokevirtual 387, 3) := by decide +kernel
theorem dX12_level_70 : decode cX12_level 70 = .ok (.iadd, 1) := by decide +kernel
theorem dX12_level_71 : decode cX12_level 71 = .ok (.istore_n 3, 1) := by decide +kernel
theorem dX12_level_72 : decode cX12_level 72 = .ok (.iinc 4 1, 3) := by decide +kernel
theorem dX12_level_75 : decode cX12_level 75 = .ok (.goto (-28), 3) := by decide +kernel
theorem dX12_level_78 : decode cX12_level 78 = .ok (.iload_n 2, 1) := by decide +kernel
theorem dX12_level_79 : decode cX12_level 79 = .ok (.bipush 7, 2) := by decide +kernel
theorem dX12_level_81 : decode cX12_level 81 = .ok (.if_icmp .ne 8, 3) := by decide +kernel
theorem dX12_level_84 : decode cX12_level 84 = .ok (.aload_n 0, 1) := by decide +kernel
theorem dX12_level_85 : decode cX12_level 85 = .ok (.iload_n 1, 1) := by decide +kernel
theorem dX12_level_86 : decode cX12_level 86 = .ok (.invokevirtual 367, 3) := by decide +kernel
theorem dX12_level_89 : decode cX12_level 89 = .ok (.iload_n 2, 1) := by decide +kernel
theorem dX12_level_90 : decode cX12_level 90 = .ok (.iconst 4, 1) := by decide +kernel
theorem dX12_level_91 : decode cX12_level 91 = .ok (.if_icmp .ne 12, 3) := by decide +kernel
theorem dX12_level_94 : decode cX12_level 94 = .ok (.aload_n 0, 1) := by decide +kernel
theorem dX12_level_95 : decode cX12_level 95 = .ok (.getfield 101, 3) := by decide +kernel
theorem dX12_level_98 : decode cX12_level 98 = .ok (.iload_n 1, 1) := by decide +kernel
theorem dX12_level_99 : decode cX12_level 99 = .ok (.iaload, 1) := by decide +kernel
theorem dX12_level_100 : decode cX12_level 100 = .ok (.goto 30, 3) := by decide +kernel
theorem dX12_level_103 : decode cX12_level 103 = .ok (.iload_n 2, 1) := by decide +kernel
theorem dX12_level_104 : decode cX12_level 104 = .ok (.iconst 5, 1) := by decide +kernel
theorem dX12_level_105 : decode cX12_level 105 = .ok (.if_icmp .ne 11, 3) := by decide +kernel
theorem dX12_level_108 : decode cX12_level 108 = .ok (.aload_n 0, 1) := by decide +kernel
theorem dX12_level_109 : decode cX12_level 109 = .ok (.iload_n 1, 1) := by decide +kernel
theorem dX12_level_110 : decode cX12_level 110 = .ok (.invokevirtual 354, 3) := by decide +kernel
theorem dX12_level_113 : decode cX12_level 113 = .ok (.goto 17, 3) := by decide +kernel
theorem dX12_level_116 : decode cX12_level 116 = .ok (.iload_n 2, 1) := by decide +kernel
theorem dX12_level_117 : decode cX12_level 117 = .ok (.bipush 6, 2) := by decide +kernel
theorem dX12_level_119 : decode cX12_level 119 = .ok (.if_icmp .ne 7, 3) := by decide +kernel
theorem dX12_level_122 : decode cX12_level 122 = .ok (.iload_n 3, 1) := by decide +kernel
theorem dX12_level_123 : decode cX12_level 123 = .ok (.goto 7, 3) := by decide +kernel
theorem dX12_level_126 : decode cX12_level 126 = .ok (.aload_n 0, 1) := by decide +kernel
theorem dX12_level_127 : decode cX12_level 127 = .ok (.getfield 332, 3) := by decide +kernel
theorem dX12_level_130 : decode cX12_level 130 = .ok (.ireturn, 1) := by decide +kernel
theorem dX12_moves_0 : decode cX12_moves 0 = .ok (.aload_n 0, 1) := by decide +kernel
theorem dX12_moves_1 : decode cX12_moves 1 = .ok (.iload_n 1, 1) := by decide +kernel
theorem dX12_moves_2 : decode cX12_moves 2 = .ok (.invokevirtual 381, 3) := by decide +kernel
theorem dX12_moves_5 : decode cX12_moves 5 = .ok (.ifCond .eq 22, 3) := by decide +kernel
theorem dX12_moves_8 : decode cX12_moves 8 = .ok (.iload_n 2, 1) := by decide +kernel
theorem dX12_moves_9 : decode cX12_moves 9 = .ok (.i2l, 1) := by decide +kernel
theorem dX12_moves_10 : decode cX12_moves 10 = .ok (.lconst 0, 1) := by decide +kernel
theorem dX12_moves_11 : decode cX12_moves 11 = .ok (.ldc2_w 390, 3) := by decide +kernel
theorem dX12_moves_14 : decode cX12_moves 14 = .ok (.invokestatic 120, 3) := by decide +kernel
theorem dX12_moves_17 : decode cX12_moves 17 = .ok (.ifCond .eq 10, 3) := by decide +kernel
theorem dX12_moves_20 : decode cX12_moves 20 = .ok (.aload_n 0, 1) := by decide +kernel
theorem dX12_moves_21 : decode cX12_moves 21 = .ok (.invokevirtual 361, 3) := by decide +kernel
theorem dX12_moves_24 : decode cX12_moves 24 = .ok (.ifCond .ne 5, 3) := by decide +kernel
theorem dX12_moves_27 : decode cX12_moves 27 = .ok (.iconst (-1), 1) := by decide +kernel
theorem dX12_moves_28 : decode cX12_moves 28 = .ok (.ireturn, 1) := by decide +kernel
theorem dX12_moves_29 : decode cX12_moves 29 = .ok (.iload_n 2, 1) := by decide +kernel
theorem dX12_moves_30 : decode cX12_moves 30 = .ok (.ifCond .ne 51, 3) := by decide +kernel
theorem dX12_moves_33 : decode cX12_moves 33 = .ok (.iload_n 3, 1) := by decide +kernel
theorem dX12_moves_34 : decode cX12_moves 34 = .ok (.iconst (-1), 1) := by decide +kernel
theorem dX12_moves_35 : decode cX12_moves 35 = .ok (.if_icmp .ne 12, 3) := by decide +kernel
theorem dX12_moves_38 : decode cX12_moves 38 = .ok (.aload_n 0, 1) := by decide +kernel
theorem dX12_moves_39 : decode cX12_moves 39 = .ok (.getfield 98, 3) := by decide +kernel
theorem dX12_moves_42 : decode cX12_moves 42 = .ok (.iload_n 1, 1) := by decide +kernel
theorem dX12_moves_43 : decode cX12_moves 43 = .ok (.iaload, 1) := by decide +kernel
theorem dX12_moves_44 : decode cX12_moves 44 = .ok (.goto 36, 3) := by decide +kernel
theorem dX12_moves_47 : decode cX12_moves 47 = .ok (.iload_n 3, 1) := by decide +kernel
theorem dX12_moves_48 : decode cX12_moves 48 = .ok (.i2l, 1) := by decide +kernel
theorem dX12_moves_49 : decode cX12_moves 49 = .ok (.lconst 0, 1) := by decide +kernel
theorem dX12_moves_50 : decode cX12_moves 50 = .ok (.aload_n 0, 1) := by decide +kernel
theorem dX12_moves_51 : decode cX12_moves 51 = .ok (.getfield 98, 3) := by decide +kernel
theorem dX12_moves_54 : decode cX12_moves 54 = .ok (.iload_n 1, 1) := by decide +kernel
theorem dX12_moves_55 : decode cX12_moves 55 = .ok (.iaload, 1) := by decide +kernel
theorem dX12_moves_56 : decode cX12_moves 56 = .ok (.iconst 1, 1) := by decide +kernel
theorem dX12_moves_57 : decode cX12_moves 57 = .ok (.isub, 1) := by decide +kernel
theorem dX12_moves_58 : decode cX12_moves 58 = .ok (.i2l, 1) := by decide +kernel
theorem dX12_moves_59 : decode cX12_moves 59 = .ok (.invokestatic 120, 3) := by decide +kernel
theorem dX12_moves_62 : decode cX12_moves 62 = .ok (.ifCond .eq 17, 3) := by decide +kernel
theorem dX12_moves_65 : decode cX12_moves 65 = .ok (.aload_n 0, 1) := by decide +kernel
theorem dX12_moves_66 : decode cX12_moves 66 = .ok (.getfield 95, 3) := by decide +kernel
theorem dX12_moves_69 : decode cX12_moves 69 = .ok (.bipush 12, 2) := by decide +kernel
theorem dX12_moves_71 : decode cX12_moves 71 = .ok (.iload_n 1, 1) := by decide +kernel
theorem dX12_moves_72 : decode cX12_moves 72 = .ok (.imul, 1) := by decide +kernel
theorem dX12_moves_73 : decode cX12_moves 73 = .ok (.iload_n 3, 1) := by decide +kernel
theorem dX12_moves_74 : decode cX12_moves 74 = .ok (.iadd, 1) := by decide +kernel
theorem dX12_moves_75 : decode cX12_moves 75 = .ok (.iaload, 1) := by decide +kernel
theorem dX12_moves_76 : decode cX12_moves 76 = .ok (.goto 4, 3) := by decide +kernel
theorem dX12_moves_79 : decode cX12_moves 79 = .ok (.iconst (-1), 1) := by decide +kernel
theorem dX12_moves_80 : decode cX12_moves 80 = .ok (.ireturn, 1) := by decide +kernel
theorem dX12_moves_81 : decode cX12_moves 81 = .ok (.iconst 0, 1) := by decide +kernel
theorem dX12_moves_82 : decode cX12_moves 82 = .ok (.istore 4, 2) := by decide +kernel
theorem dX12_moves_84 : decode cX12_moves 84 = .ok (.iload_n 2, 1) := by decide +kernel
theorem dX12_moves_85 : decode cX12_moves 85 = .ok (.iconst 3, 1) := by decide +kernel
theorem dX12_moves_86 : decode cX12_moves 86 = .ok (.if_icmp .ne 68, 3) := by decide +kernel
theorem dX12_moves_89 : decode cX12_moves 89 = .ok (.iconst 0, 1) := by decide +kernel
theorem dX12_moves_90 : decode cX12_moves 90 = .ok (.istore 5, 2) := by decide +kernel
theorem dX12_moves_92 : decode cX12_moves 92 = .ok (.iload 5, 2) := by decide +kernel
theorem dX12_moves_94 : decode cX12_moves 94 = .ok (.aload_n 0, 1) := by decide +kernel
theorem dX12_moves_95 : decode cX12_moves 95 = .ok (.getfield 263, 3) := by decide +kernel
theorem dX12_moves_98 : decode cX12_moves 98 = .ok (.if_icmp .ge 44, 3) := by decide +kernel
theorem dX12_moves_101 : decode cX12_moves 101 = .ok (.iload_n 1, 1) := by decide +kernel
theorem dX12_moves_102 : decode cX12_moves 102 = .ok (.aload_n 0, 1) := by decide +kernel
theorem dX12_moves_103 : decode cX12_moves 103 = .ok (.getfield 260, 3) := by decide +kernel
theorem dX12_moves_106 : decode cX12_moves 106 = .ok (.iconst 1, 1) := by decide +kernel
theorem dX12_moves_107 : decode cX12_moves 107 = .ok (.isub, 1) := by decide +kernel
theorem dX12_moves_108 : decode cX12_moves 108 = .ok (.if_icmp .ne 34, 3) := by decide +kernel
theorem dX12_moves_111 : decode cX12_moves 111 = .ok (.aload_n 0, 1) := by decide +kernel
theorem dX12_moves_112 : decode cX12_moves 112 = .ok (.getfield 89, 3) := by decide +kernel
theorem dX12_moves_115 : decode cX12_moves 115 = .ok (.iload 5, 2) := by decide +kernel
theorem dX12_moves_117 : decode cX12_moves 117 = .ok (.baload, 1) := by decide +kernel
theorem dX12_moves_118 : decode cX12_moves 118 = .ok (.ifCond .ne 6, 3) := by decide +kernel
theorem dX12_moves_121 : decode cX12_moves 121 = .ok (.goto 15, 3) := by decide +kernel
theorem dX12_moves_124 : decode cX12_moves 124 = .ok (.iload 4, 2) := by decide +kernel
theorem dX12_moves_126 : decode cX12_moves 126 = .ok (.iload_n 3, 1) := by decide +kernel
theorem dX12_moves_127 : decode cX12_moves 127 = .ok (.if_icmp .ne 6, 3) := by decide +kernel
theorem dX12_moves_130 : decode cX12_moves 130 = .ok (.iload 5, 2) := by decide +kernel
theorem dX12_moves_132 : decode cX12_moves 132 = .ok (.ireturn, 1) := by decide +kernel
theorem dX12_moves_133 : decode cX12_moves 133 = .ok (.iinc 4 1, 3) := by decide +kernel
theorem dX12_moves_136 : decode cX12_moves 136 = .ok (.iinc 5 1, 3) := by decide +kernel
theorem dX12_moves_139 : decode cX12_moves 139 = .ok (.goto (-47), 3) := by decide +kernel
theorem dX12_moves_142 : decode cX12_moves 142 = .ok (.iload_n 3, 1) := by decide +kernel
theorem dX12_moves_143 : decode cX12_moves 143 = .ok (.iconst (-1), 1) := by decide +kernel
theorem dX12_moves_144 : decode cX12_moves 144 = .ok (.if_icmp .ne 8, 3) := by decide +kernel
theorem dX12_moves_147 : decode cX12_moves 147 = .ok (.iload 4, 2) := by decide +kernel
theorem dX12_moves_149 : decode cX12_moves 149 = .ok (.goto 4, 3) := by decide +kernel
theorem dX12_moves_152 : decode cX12_moves 152 = .ok (.iconst (-1), 1) := by decide +kernel
theorem dX12_moves_153 : decode cX12_moves 153 = .ok (.ireturn, 1) := by decide +kernel
theorem dX12_moves_154 : decode cX12_moves 154 = .ok (.iconst 0, 1) := by decide +kernel
theorem dX12_moves_155 : decode cX12_moves 155 = .ok (.istore 5, 2) := by decide +kernel
theorem dX12_moves_157 : decode cX12_moves 157 = .ok (.iload 5, 2) := by decide +kernel
theorem dX12_moves_159 : decode cX12_moves 159 = .ok (.aload_n 0, 1) := by decide +kernel
theorem dX12_moves_160 : decode cX12_moves 160 = .ok (.getfield 67, 3) := by decide +kernel
theorem dX12_moves_163 : decode cX12_moves 163 = .ok (.iload_n 1, 1) := by decide +kernel
theorem dX12_moves_164 : decode cX12_moves 164 = .ok (.iaload, 1) := by decide +kernel
theorem dX12_moves_165 : decode cX12_moves 165 = .ok (.if_icmp .ge 66, 3) := by decide +kernel
theorem dX12_moves_168 : decode cX12_moves 168 = .ok (.aload_n 0, 1) := by decide +kernel
theorem dX12_moves_169 : decode cX12_moves 169 = .ok (.getfield 64, 3) := by decide +kernel
theorem dX12_moves_172 : decode cX12_moves 172 = .ok (.bipush 12, 2) := by decide +kernel
theorem dX12_moves_174 : decode cX12_moves 174 = .ok (.iload_n 1, 1) := by decide +kernel
theorem dX12_moves_175 : decode cX12_moves 175 = .ok (.imul, 1) := by decide +kernel
theorem dX12_moves_176 : decode cX12_moves 176 = .ok (.iload 5, 2) := by decide +kernel
theorem dX12_moves_178 : decode cX12_moves 178 = .ok (.iadd, 1) := by decide +kernel
theorem dX12_moves_179 : decode cX12_moves 179 = .ok (.iaload, 1) := by decide +kernel
theorem dX12_moves_180 : decode cX12_moves 180 = .ok (.istore 6, 2) := by decide +kernel
theorem dX12_moves_182 : decode cX12_moves 182 = .ok (.iload_n 2, 1) := by decide +kernel
theorem dX12_moves_183 : decode cX12_moves 183 = .ok (.iconst 1, 1) := by decide +kernel
theorem dX12_moves_184 : decode cX12_moves 184 = .ok (.if_icmp .ne 16, 3) := by decide +kernel
theorem dX12_moves_187 : decode cX12_moves 187 = .ok (.aload_n 0, 1) := by decide +kernel
theorem dX12_moves_188 : decode cX12_moves 188 = .ok (.getfield 86, 3) := by decide +kernel
theorem dX12_moves_191 : decode cX12_moves 191 = .ok (.iload 6, 2) := by decide +kernel
theorem dX12_moves_193 : decode cX12_moves 193 = .ok (.baload, 1) := by decide +kernel
theorem dX12_moves_194 : decode cX12_moves 194 = .ok (.ifCond .ne 19, 3) := by decide +kernel
theorem dX12_moves_197 : decode cX12_moves 197 = .ok (.goto 28, 3) := by decide +kernel
theorem dX12_moves_200 : decode cX12_moves 200 = .ok (.aload_n 0, 1) := by decide +kernel
theorem dX12_moves_201 : decode cX12_moves 201 = .ok (.getfield 92, 3) := by decide +kernel
theorem dX12_moves_204 : decode cX12_moves 204 = .ok (.iload 6, 2) := by decide +kernel
theorem dX12_moves_206 : decode cX12_moves 206 = .ok (.baload, 1) := by decide +kernel
theorem dX12_moves_207 : decode cX12_moves 207 = .ok (.ifCond .ne 6, 3) := by decide +kernel
theorem dX12_moves_210 : decode cX12_moves 210 = .ok (.goto 15, 3) := by decide +kernel
theorem dX12_moves_213 : decode cX12_moves 213 = .ok (.iload 4, 2) := by decide +kernel
theorem dX12_moves_215 : decode cX12_moves 215 = .ok (.iload_n 3, 1) := by decide +kernel
theorem dX12_moves_216 : decode cX12_moves 216 = .ok (.if_icmp .ne 6, 3) := by decide +kernel
theorem dX12_moves_219 : decode cX12_moves 219 = .ok (.iload 6, 2) := by decide +kernel
theorem dX12_moves_221 : decode cX12_moves 221 = .ok (.ireturn, 1) := by decide +kernel
theorem dX12_moves_222 : decode cX12_moves 222 = .ok (.iinc 4 1, 3) := by decide +kernel
theorem dX12_moves_225 : decode cX12_moves 225 = .ok (.iinc 5 1, 3) := by decide +kernel
theorem dX12_moves_228 : decode cX12_moves 228 = .ok (.goto (-71), 3) := by decide +kernel
theorem dX12_moves_231 : decode cX12_moves 231 = .ok (.iload_n 3, 1) := by decide +kernel
theorem dX12_moves_232 : decode cX12_moves 232 = .ok (.iconst (-1), 1) := by decide +kernel
theorem dX12_moves_233 : decode cX12_moves 233 = .ok (.if_icmp .ne 8, 3) := by decide +kernel
theorem dX12_moves_236 : decode cX12_moves 236 = .ok (.iload 4, 2) := by decide +kernel
theorem dX12_moves_238 : decode cX12_moves 238 = .ok (.goto 4, 3) := by decide +kernel
theorem dX12_moves_241 : decode cX12_moves 241 = .ok (.iconst (-1), 1) := by decide +kernel
theorem dX12_moves_242 : decode cX12_moves 242 = .ok (.ireturn, 1) := by decide +kernel
theorem dX12_would_0 : decode cX12_would 0 = .ok (.aload_n 0, 1) := by decide +kernel
theorem dX12_would_1 : decode cX12_would 1 = .ok (.iload_n 1, 1) := by decide +kernel
theorem dX12_would_2 : decode cX12_would 2 = .ok (.invokevirtual 284, 3) := by decide +kernel
theorem dX12_would_5 : decode cX12_would 5 = .ok (.ifCond .eq 18, 3) := by decide +kernel
theorem dX12_would_8 : decode cX12_would 8 = .ok (.aload_n 0, 1) := by decide +kernel
theorem dX12_would_9 : decode cX12_would 9 = .ok (.invokevirtual 361, 3) := by decide +kernel
theorem dX12_would_12 : decode cX12_would 12 = .ok (.ifCond .eq 11, 3) := by decide +kernel
theorem dX12_would_15 : decode cX12_would 15 = .ok (.aload_n 0, 1) := by decide +kernel
theorem dX12_would_16 : decode cX12_would 16 = .ok (.iload_n 1, 1) := by decide +kernel
theorem dX12_would_17 : decode cX12_would 17 = .ok (.invokevirtual 364, 3) := by decide +kernel
theorem dX12_would_20 : decode cX12_would 20 = .ok (.goto 5, 3) := by decide +kernel
theorem dX12_would_23 : decode cX12_would 23 = .ok (.bipush (-3), 2) := by decide +kernel
theorem dX12_would_25 : decode cX12_would 25 = .ok (.ireturn, 1) := by decide +kernel
theorem dX12_needs_0 : decode cX12_needs 0 = .ok (.aload_n 0, 1) := by decide +kernel
theorem dX12_needs_1 : decode cX12_needs 1 = .ok (.iload_n 1, 1) := by decide +kernel
theorem dX12_needs_2 : decode cX12_needs 2 = .ok (.invokevirtual 287, 3) := by decide +kernel
theorem dX12_needs_5 : decode cX12_needs 5 = .ok (.ifCond .ne 5, 3) := by decide +kernel
theorem dX12_needs_8 : decode cX12_needs 8 = .ok (.iconst (-1), 1) := by decide +kernel
theorem dX12_needs_9 : decode cX12_needs 9 = .ok (.ireturn, 1) := by decide +kernel
theorem dX12_needs_10 : decode cX12_needs 10 = .ok (.aload_n 0, 1) := by decide +kernel
theorem dX12_needs_11 : decode cX12_needs 11 = .ok (.getfield 32, 3) := by decide +kernel
theorem dX12_needs_14 : decode cX12_needs 14 = .ok (.iconst 0, 1) := by decide +kernel
theorem dX12_needs_15 : decode cX12_needs 15 = .ok (.iload_n 1, 1) := by decide +kernel
theorem dX12_needs_16 : decode cX12_needs 16 = .ok (.iadd, 1) := by decide +kernel
theorem dX12_needs_17 : decode cX12_needs 17 = .ok (.iaload, 1) := by decide +kernel
theorem dX12_needs_18 : decode cX12_needs 18 = .ok (.istore_n 2, 1) := by decide +kernel
theorem dX12_needs_19 : decode cX12_needs 19 = .ok (.iconst (-1), 1) := by decide +kernel
theorem dX12_needs_20 : decode cX12_needs 20 = .ok (.istore_n 3, 1) := by decide +kernel
theorem dX12_needs_21 : decode cX12_needs 21 = .ok (.bipush 9, 2) := by decide +kernel
theorem dX12_needs_23 : decode cX12_needs 23 = .ok (.istore 4, 2) := by decide +kernel
theorem dX12_needs_25 : decode cX12_needs 25 = .ok (.iload 4, 2) := by decide +kernel
theorem dX12_needs_27 : decode cX12_needs 27 = .ok (.ifCond .lt 38, 3) := by decide +kernel
theorem dX12_needs_30 : decode cX12_needs 30 = .ok (.aload_n 0, 1) := by decide +kernel
theorem dX12_needs_31 : decode cX12_needs 31 = .ok (.getfield 32, 3) := by decide +kernel
theorem dX12_needs_34 : decode cX12_needs 34 = .ok (.iconst 0, 1) := by decide +kernel
theorem dX12_needs_35 : decode cX12_needs 35 = .ok (.iload_n 1, 1) := by decide +kernel
theorem dX12_needs_36 : decode cX12_needs 36 = .ok (.iadd, 1) := by decide +kernel
theorem dX12_needs_37 : decode cX12_needs 37 = .ok (.iload 4, 2) := by decide +kernel
theorem dX12_needs_39 : decode cX12_needs 39 = .ok (.iastore, 1) := by decide +kernel
theorem dX12_needs_40 : decode cX12_needs 40 = .ok (.aload_n 0, 1) := by decide +kernel
theorem dX12_needs_41 : decode cX12_needs 41 = .ok (.invokevirtual 361, 3) := by decide +kernel
theorem dX12_needs_44 : decode cX12_needs 44 = .ok (.ifCond .eq 15, 3) := by decide +kernel
theorem dX12_needs_47 : decode cX12_needs 47 = .ok (.aload_n 0, 1) := by decide +kernel
theorem dX12_needs_48 : decode cX12_needs 48 = .ok (.getfield 82, 3) := by decide +kernel
theorem dX12_needs_51 : decode cX12_needs 51 = .ok (.iload_n 1, 1) := by decide +kernel
theorem dX12_needs_52 : decode cX12_needs 52 = .ok (.baload, 1) := by decide +kernel
theorem dX12_needs_53 : decode cX12_needs 53 = .ok (.ifCond .eq 6, 3) := by decide +kernel
theorem dX12_needs_56 : decode cX12_needs 56 = .ok (.iload 4, 2) := by decide +kernel
theorem dX12_needs_58 : decode cX12_needs 58 = .ok (.istore_n 3, 1) := by decide +kernel
theorem dX12_needs_59 : decode cX12_needs 59 = .ok (.iinc 4 (-1), 3) := by decide +kernel
theorem dX12_needs_62 : decode cX12_needs 62 = .ok (.goto (-37), 3) := by decide +kernel
theorem dX12_needs_65 : decode cX12_needs 65 = .ok (.aload_n 0, 1) := by decide +kernel
theorem dX12_needs_66 : decode cX12_needs 66 = .ok (.getfield 32, 3) := by decide +kernel
theorem dX12_needs_69 : decode cX12_needs 69 = .ok (.iconst 0, 1) := by decide +kernel
theorem dX12_needs_70 : decode cX12_needs 70 = .ok (.iload_n 1, 1) := by decide +kernel
theorem dX12_needs_71 : decode cX12_needs 71 = .ok (.iadd, 1) := by decide +kernel
theorem dX12_needs_72 : decode cX12_needs 72 = .ok (.iload_n 2, 1) := by decide +kernel
theorem dX12_needs_73 : decode cX12_needs 73 = .ok (.iastore, 1) := by decide +kernel
theorem dX12_needs_74 : decode cX12_needs 74 = .ok (.iload_n 3, 1) := by decide +kernel
theorem dX12_needs_75 : decode cX12_needs 75 = .ok (.ireturn, 1) := by decide +kernel
theorem dX12_parted_0 : decode cX12_parted 0 = .ok (.aload_n 0, 1) := by decide +kernel
theorem dX12_parted_1 : decode cX12_parted 1 = .ok (.iload_n 1, 1) := by decide +kernel
theorem dX12_parted_2 : decode cX12_parted 2 = .ok (.invokevirtual 287, 3) := by decide +kernel
theorem dX12_parted_5 : decode cX12_parted 5 = .ok (.ifCond .ne 5, 3) := by decide +kernel
theorem dX12_parted_8 : decode cX12_parted 8 = .ok (.iconst (-1), 1) := by decide +kernel
theorem dX12_parted_9 : decode cX12_parted 9 = .ok (.ireturn, 1) := by decide +kernel
theorem dX12_parted_10 : decode cX12_parted 10 = .ok (.aload_n 0, 1) := by decide +kernel
theorem dX12_parted_11 : decode cX12_parted 11 = .ok (.aload_n 0, 1) := by decide +kernel
theorem dX12_parted_12 : decode cX12_parted 12 = .ok (.getfield 23, 3) := by decide +kernel
theorem dX12_parted_15 : decode cX12_parted 15 = .ok (.iload_n 1, 1) := by decide +kernel
theorem dX12_parted_16 : decode cX12_parted 16 = .ok (.iaload, 1) := by decide +kernel
theorem dX12_parted_17 : decode cX12_parted 17 = .ok (.invokevirtual 367, 3) := by decide +kernel
theorem dX12_parted_20 : decode cX12_parted 20 = .ok (.iconst 0, 1) := by decide +kernel
theorem dX12_parted_21 : decode cX12_parted 21 = .ok (.istore_n 2, 1) := by decide +kernel
theorem dX12_parted_22 : decode cX12_parted 22 = .ok (.aload_n 0, 1) := by decide +kernel
theorem dX12_parted_23 : decode cX12_parted 23 = .ok (.getfield 70, 3) := by decide +kernel
theorem dX12_parted_26 : decode cX12_parted 26 = .ok (.iload_n 2, 1) := by decide +kernel
theorem dX12_parted_27 : decode cX12_parted 27 = .ok (.iaload, 1) := by decide +kernel
theorem dX12_parted_28 : decode cX12_parted 28 = .ok (.iload_n 1, 1) := by decide +kernel
theorem dX12_parted_29 : decode cX12_parted 29 = .ok (.if_icmp .eq 9, 3) := by decide +kernel
theorem dX12_parted_32 : decode cX12_parted 32 = .ok (.iinc 2 1, 3) := by decide +kernel
theorem dX12_parted_35 : decode cX12_parted 35 = .ok (.goto (-13), 3) := by decide +kernel
theorem dX12_parted_38 : decode cX12_parted 38 = .ok (.aload_n 0, 1) := by decide +kernel
theorem dX12_parted_39 : decode cX12_parted 39 = .ok (.getfield 79, 3) := by decide +kernel
theorem dX12_parted_42 : decode cX12_parted 42 = .ok (.iload_n 2, 1) := by decide +kernel
theorem dX12_parted_43 : decode cX12_parted 43 = .ok (.iaload, 1) := by decide +kernel
theorem dX12_parted_44 : decode cX12_parted 44 = .ok (.ireturn, 1) := by decide +kernel
theorem dX12_swap_0 : decode cX12_swap 0 = .ok (.aload_n 0, 1) := by decide +kernel
theorem dX12_swap_1 : decode cX12_swap 1 = .ok (.iload_n 1, 1) := by decide +kernel
theorem dX12_swap_2 : decode cX12_swap 2 = .ok (.invokevirtual 381, 3) := by decide +kernel
theorem dX12_swap_5 : decode cX12_swap 5 = .ok (.ifCond .eq 15, 3) := by decide +kernel
theorem dX12_swap_8 : decode cX12_swap 8 = .ok (.iload_n 2, 1) := by decide +kernel
theorem dX12_swap_9 : decode cX12_swap 9 = .ok (.i2l, 1) := by decide +kernel
theorem dX12_swap_10 : decode cX12_swap 10 = .ok (.lconst 0, 1) := by decide +kernel
theorem dX12_swap_11 : decode cX12_swap 11 = .ok (.ldc2_w 392, 3) := by decide +kernel
theorem dX12_swap_14 : decode cX12_swap 14 = .ok (.invokestatic 120, 3) := by decide +kernel
theorem dX12_swap_17 : decode cX12_swap 17 = .ok (.ifCond .ne 5, 3) := by decide +kernel
theorem dX12_swap_20 : decode cX12_swap 20 = .ok (.iconst (-1), 1) := by decide +kernel
theorem dX12_swap_21 : decode cX12_swap 21 = .ok (.ireturn, 1) := by decide +kernel
theorem dX12_swap_22 : decode cX12_swap 22 = .ok (.iconst 0, 1) := by decide +kernel
theorem dX12_swap_23 : decode cX12_swap 23 = .ok (.istore_n 3, 1) := by decide +kernel
theorem dX12_swap_24 : decode cX12_swap 24 = .ok (.iconst (-1), 1) := by decide +kernel
theorem dX12_swap_25 : decode cX12_swap 25 = .ok (.istore 4, 2) := by decide +kernel
theorem dX12_swap_27 : decode cX12_swap 27 = .ok (.iconst (-1), 1) := by decide +kernel
theorem dX12_swap_28 : decode cX12_swap 28 = .ok (.istore 5, 2) := by decide +kernel
theorem dX12_swap_30 : decode cX12_swap 30 = .ok (.iconst 0, 1) := by decide +kernel
theorem dX12_swap_31 : decode cX12_swap 31 = .ok (.istore 6, 2) := by decide +kernel
theorem dX12_swap_33 : decode cX12_swap 33 = .ok (.iload 6, 2) := by decide +kernel
theorem dX12_swap_35 : decode cX12_swap 35 = .ok (.aload_n 0, 1) := by decide +kernel
theorem dX12_swap_36 : decode cX12_swap 36 = .ok (.getfield 263, 3) := by decide +kernel
theorem dX12_swap_39 : decode cX12_swap 39 = .ok (.if_icmp .ge 164, 3) := by decide +kernel
theorem dX12_swap_42 : decode cX12_swap 42 = .ok (.iload 6, 2) := by decide +kernel
