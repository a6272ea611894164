theorem dX6_allFull_31 : decode cX6_allFull 31 = .ok (.getfield 18, 3) := by decide +kernel
theorem dX6_allFull_34 : decode cX6_allFull 34 = .ok (.getfield 88, 3) := by decide +kernel
theorem dX6_allFull_37 : decode cX6_allFull 37 = .ok (.iload_n 1, 1) := by decide +kernel
theorem dX6_allFull_38 : decode cX6_allFull 38 = .ok (.iaload, 1) := by decide +kernel
theorem dX6_allFull_39 : decode cX6_allFull 39 = .ok (.imul, 1) := by decide +kernel
theorem dX6_allFull_40 : decode cX6_allFull 40 = .ok (.if_icmp .ge 5, 3) := by decide +kernel
theorem dX6_allFull_43 : decode cX6_allFull 43 = .ok (.iconst 0, 1) := by decide +kernel
theorem dX6_allFull_44 : decode cX6_allFull 44 = .ok (.ireturn, 1) := by decide +kernel
theorem dX6_allFull_45 : decode cX6_allFull 45 = .ok (.iinc 1 1, 3) := by decide +kernel
theorem dX6_allFull_48 : decode cX6_allFull 48 = .ok (.goto (-46), 3) := by decide +kernel
theorem dX6_allFull_51 : decode cX6_allFull 51 = .ok (.iconst 1, 1) := by decide +kernel
theorem dX6_allFull_52 : decode cX6_allFull 52 = .ok (.ireturn, 1) := by decide +kernel
theorem dX7_init_0 : decode cX7_init 0 = .ok (.aload_n 0, 1) := by decide +kernel
theorem dX7_init_1 : decode cX7_init 1 = .ok (.invokespecial 3, 3) := by decide +kernel
theorem dX7_init_4 : decode cX7_init 4 = .ok (.aload_n 0, 1) := by decide +kernel
theorem dX7_init_5 : decode cX7_init 5 = .ok (.sipush 150, 3) := by decide +kernel
theorem dX7_init_8 : decode cX7_init 8 = .ok (.newarray .int, 2) := by decide +kernel
theorem dX7_init_10 : decode cX7_init 10 = .ok (.putfield 11, 3) := by decide +kernel
theorem dX7_init_13 : decode cX7_init 13 = .ok (.aload_n 0, 1) := by decide +kernel
theorem dX7_init_14 : decode cX7_init 14 = .ok (.sipush 150, 3) := by decide +kernel
theorem dX7_init_17 : decode cX7_init 17 = .ok (.newarray .int, 2) := by decide +kernel
theorem dX7_init_19 : decode cX7_init 19 = .ok (.putfield 15, 3) := by decide +kernel
theorem dX7_init_22 : decode cX7_init 22 = .ok (.aload_n 0, 1) := by decide +kernel
theorem dX7_init_23 : decode cX7_init 23 = .ok (.sipush 900, 3) := by decide +kernel
theorem dX7_init_26 : decode cX7_init 26 = .ok (.newarray .int, 2) := by decide +kernel
theorem dX7_init_28 : decode cX7_init 28 = .ok (.putfield 18, 3) := by decide +kernel
theorem dX7_init_31 : decode cX7_init 31 = .ok (.aload_n 0, 1) := by decide +kernel
theorem dX7_init_32 : decode cX7_init 32 = .ok (.getfield 18, 3) := by decide +kernel
theorem dX7_init_35 : decode cX7_init 35 = .ok (.iconst (-1), 1) := by decide +kernel
theorem dX7_init_36 : decode cX7_init 36 = .ok (.invokestatic 21, 3) := by decide +kernel
theorem dX7_init_39 : decode cX7_init 39 = .ok (.aload_n 0, 1) := by decide +kernel
theorem dX7_init_40 : decode cX7_init 40 = .ok (.bipush 30, 2) := by decide +kernel
theorem dX7_init_42 : decode cX7_init 42 = .ok (.newarray .int, 2) := by decide +kernel
theorem dX7_init_44 : decode cX7_init 44 = .ok (.putfield 27, 3) := by decide +kernel
theorem dX7_init_47 : decode cX7_init 47 = .ok (.aload_n 0, 1) := by decide +kernel
theorem dX7_init_48 : decode cX7_init 48 = .ok (.bipush 30, 2) := by decide +kernel
theorem dX7_init_50 : decode cX7_init 50 = .ok (.newarray .int, 2) := by decide +kernel
theorem dX7_init_52 : decode cX7_init 52 = .ok (.putfield 30, 3) := by decide +kernel
theorem dX7_init_55 : decode cX7_init 55 = .ok (.aload_n 0, 1) := by decide +kernel
theorem dX7_init_56 : decode cX7_init 56 = .ok (.bipush 30, 2) := by decide +kernel
theorem dX7_init_58 : decode cX7_init 58 = .ok (.newarray .int, 2) := by decide +kernel
theorem dX7_init_60 : decode cX7_init 60 = .ok (.putfield 33, 3) := by decide +kernel
theorem dX7_init_63 : decode cX7_init 63 = .ok (.aload_n 0, 1) := by decide +kernel
theorem dX7_init_64 : decode cX7_init 64 = .ok (.bipush 30, 2) := by decide +kernel
theorem dX7_init_66 : decode cX7_init 66 = .ok (.newarray .int, 2) := by decide +kernel
theorem dX7_init_68 : decode cX7_init 68 = .ok (.putfield 36, 3) := by decide +kernel
theorem dX7_init_71 : decode cX7_init 71 = .ok (.aload_n 0, 1) := by decide +kernel
theorem dX7_init_72 : decode cX7_init 72 = .ok (.bipush 30, 2) := by decide +kernel
theorem dX7_init_74 : decode cX7_init 74 = .ok (.newarray .int, 2) := by decide +kernel
theorem dX7_init_76 : decode cX7_init 76 = .ok (.putfield 39, 3) := by decide +kernel
theorem dX7_init_79 : decode cX7_init 79 = .ok (.aload_n 0, 1) := by decide +kernel
theorem dX7_init_80 : decode cX7_init 80 = .ok (.bipush 30, 2) := by decide +kernel
theorem dX7_init_82 : decode cX7_init 82 = .ok (.newarray .int, 2) := by decide +kernel
theorem dX7_init_84 : decode cX7_init 84 = .ok (.putfield 42, 3) := by decide +kernel
theorem dX7_init_87 : decode cX7_init 87 = .ok (.aload_n 0, 1) := by decide +kernel
theorem dX7_init_88 : decode cX7_init 88 = .ok (.bipush 30, 2) := by decide +kernel
theorem dX7_init_90 : decode cX7_init 90 = .ok (.newarray .int, 2) := by decide +kernel
theorem dX7_init_92 : decode cX7_init 92 = .ok (.putfield 45, 3) := by decide +kernel
theorem dX7_init_95 : decode cX7_init 95 = .ok (.aload_n 0, 1) := by decide +kernel
theorem dX7_init_96 : decode cX7_init 96 = .ok (.bipush 30, 2) := by decide +kernel
theorem dX7_init_98 : decode cX7_init 98 = .ok (.newarray .int, 2) := by decide +kernel
theorem dX7_init_100 : decode cX7_init 100 = .ok (.putfield 48, 3) := by decide +kernel
theorem dX7_init_103 : decode cX7_init 103 = .ok (.return_, 1) := by decide +kernel
theorem dX7_begin_0 : decode cX7_begin 0 = .ok (.aload_n 0, 1) := by decide +kernel
theorem dX7_begin_1 : decode cX7_begin 1 = .ok (.iconst 0, 1) := by decide +kernel
theorem dX7_begin_2 : decode cX7_begin 2 = .ok (.invokevirtual 51, 3) := by decide +kernel
theorem dX7_begin_5 : decode cX7_begin 5 = .ok (.aload_n 0, 1) := by decide +kernel
theorem dX7_begin_6 : decode cX7_begin 6 = .ok (.getfield 27, 3) := by decide +kernel
theorem dX7_begin_9 : decode cX7_begin 9 = .ok (.iconst 0, 1) := by decide +kernel
theorem dX7_begin_10 : decode cX7_begin 10 = .ok (.invokestatic 21, 3) := by decide +kernel
theorem dX7_begin_13 : decode cX7_begin 13 = .ok (.aload_n 0, 1) := by decide +kernel
theorem dX7_begin_14 : decode cX7_begin 14 = .ok (.getfield 30, 3) := by decide +kernel
theorem dX7_begin_17 : decode cX7_begin 17 = .ok (.iconst 0, 1) := by decide +kernel
theorem dX7_begin_18 : decode cX7_begin 18 = .ok (.invokestatic 21, 3) := by decide +kernel
theorem dX7_begin_21 : decode cX7_begin 21 = .ok (.aload_n 0, 1) := by decide +kernel
theorem dX7_begin_22 : decode cX7_begin 22 = .ok (.getfield 33, 3) := by decide +kernel
theorem dX7_begin_25 : decode cX7_begin 25 = .ok (.iconst 0, 1) := by decide +kernel
theorem dX7_begin_26 : decode cX7_begin 26 = .ok (.invokestatic 21, 3) := by decide +kernel
theorem dX7_begin_29 : decode cX7_begin 29 = .ok (.return_, 1) := by decide +kernel
theorem dX7_tell_0 : decode cX7_tell 0 = .ok (.aload_n 0, 1) := by decide +kernel
theorem dX7_tell_1 : decode cX7_tell 1 = .ok (.getfield 55, 3) := by decide +kernel
theorem dX7_tell_4 : decode cX7_tell 4 = .ok (.sipush 150, 3) := by decide +kernel
theorem dX7_tell_7 : decode cX7_tell 7 = .ok (.if_icmp .ge 69, 3) := by decide +kernel
theorem dX7_tell_10 : decode cX7_tell 10 = .ok (.aload_n 0, 1) := by decide +kernel
theorem dX7_tell_11 : decode cX7_tell 11 = .ok (.getfield 11, 3) := by decide +kernel
theorem dX7_tell_14 : decode cX7_tell 14 = .ok (.aload_n 0, 1) := by decide +kernel
theorem dX7_tell_15 : decode cX7_tell 15 = .ok (.getfield 55, 3) := by decide +kernel
theorem dX7_tell_18 : decode cX7_tell 18 = .ok (.iload_n 1, 1) := by decide +kernel
theorem dX7_tell_19 : decode cX7_tell 19 = .ok (.iastore, 1) := by decide +kernel
theorem dX7_tell_20 : decode cX7_tell 20 = .ok (.aload_n 0, 1) := by decide +kernel
theorem dX7_tell_21 : decode cX7_tell 21 = .ok (.getfield 15, 3) := by decide +kernel
theorem dX7_tell_24 : decode cX7_tell 24 = .ok (.aload_n 0, 1) := by decide +kernel
theorem dX7_tell_25 : decode cX7_tell 25 = .ok (.getfield 55, 3) := by decide +kernel
theorem dX7_tell_28 : decode cX7_tell 28 = .ok (.iload_n 2, 1) := by decide +kernel
theorem dX7_tell_29 : decode cX7_tell 29 = .ok (.iastore, 1) := by decide +kernel
theorem dX7_tell_30 : decode cX7_tell 30 = .ok (.aload_n 0, 1) := by decide +kernel
theorem dX7_tell_31 : decode cX7_tell 31 = .ok (.dup, 1) := by decide +kernel
theorem dX7_tell_32 : decode cX7_tell 32 = .ok (.getfield 55, 3) := by decide +kernel
theorem dX7_tell_35 : decode cX7_tell 35 = .ok (.iconst 1, 1) := by decide +kernel
theorem dX7_tell_36 : decode cX7_tell 36 = .ok (.iadd, 1) := by decide +kernel
theorem dX7_tell_37 : decode cX7_tell 37 = .ok (.putfield 55, 3) := by decide +kernel
theorem dX7_tell_40 : decode cX7_tell 40 = .ok (.aload_n 0, 1) := by decide +kernel
theorem dX7_tell_41 : decode cX7_tell 41 = .ok (.getfield 18, 3) := by decide +kernel
theorem dX7_tell_44 : decode cX7_tell 44 = .ok (.iload_n 1, 1) := by decide +kernel
theorem dX7_tell_45 : decode cX7_tell 45 = .ok (.bipush 30, 2) := by decide +kernel
theorem dX7_tell_47 : decode cX7_tell 47 = .ok (.imul, 1) := by decide +kernel
theorem dX7_tell_48 : decode cX7_tell 48 = .ok (.iload_n 2, 1) := by decide +kernel
theorem dX7_tell_49 : decode cX7_tell 49 = .ok (.iadd, 1) := by decide +kernel
theorem dX7_tell_50 : decode cX7_tell 50 = .ok (.iload_n 3, 1) := by decide +kernel
theorem dX7_tell_51 : decode cX7_tell 51 = .ok (.bipush 100, 2) := by decide +kernel
theorem dX7_tell_53 : decode cX7_tell 53 = .ok (.imul, 1) := by decide +kernel
theorem dX7_tell_54 : decode cX7_tell 54 = .ok (.iload 4, 2) := by decide +kernel
theorem dX7_tell_56 : decode cX7_tell 56 = .ok (.iadd, 1) := by decide +kernel
theorem dX7_tell_57 : decode cX7_tell 57 = .ok (.iastore, 1) := by decide +kernel
theorem dX7_tell_58 : decode cX7_tell 58 = .ok (.aload_n 0, 1) := by decide +kernel
theorem dX7_tell_59 : decode cX7_tell 59 = .ok (.iload_n 1, 1) := by decide +kernel
theorem dX7_tell_60 : decode cX7_tell 60 = .ok (.iload_n 3, 1) := by decide +kernel
theorem dX7_tell_61 : decode cX7_tell 61 = .ok (.iload 4, 2) := by decide +kernel
theorem dX7_tell_63 : decode cX7_tell 63 = .ok (.iconst 1, 1) := by decide +kernel
theorem dX7_tell_64 : decode cX7_tell 64 = .ok (.invokevirtual 59, 3) := by decide +kernel
theorem dX7_tell_67 : decode cX7_tell 67 = .ok (.aload_n 0, 1) := by decide +kernel
theorem dX7_tell_68 : decode cX7_tell 68 = .ok (.iload_n 2, 1) := by decide +kernel
theorem dX7_tell_69 : decode cX7_tell 69 = .ok (.iload 4, 2) := by decide +kernel
theorem dX7_tell_71 : decode cX7_tell 71 = .ok (.iload_n 3, 1) := by decide +kernel
theorem dX7_tell_72 : decode cX7_tell 72 = .ok (.iconst 1, 1) := by decide +kernel
theorem dX7_tell_73 : decode cX7_tell 73 = .ok (.invokevirtual 59, 3) := by decide +kernel
theorem dX7_tell_76 : decode cX7_tell 76 = .ok (.return_, 1) := by decide +kernel
theorem dX7_keepFirst_0 : decode cX7_keepFirst 0 = .ok (.iload_n 1, 1) := by decide +kernel
theorem dX7_keepFirst_1 : decode cX7_keepFirst 1 = .ok (.istore_n 2, 1) := by decide +kernel
theorem dX7_keepFirst_2 : decode cX7_keepFirst 2 = .ok (.iload_n 2, 1) := by decide +kernel
theorem dX7_keepFirst_3 : decode cX7_keepFirst 3 = .ok (.aload_n 0, 1) := by decide +kernel
theorem dX7_keepFirst_4 : decode cX7_keepFirst 4 = .ok (.getfield 55, 3) := by decide +kernel
theorem dX7_keepFirst_7 : decode cX7_keepFirst 7 = .ok (.if_icmp .ge 76, 3) := by decide +kernel
theorem dX7_keepFirst_10 : decode cX7_keepFirst 10 = .ok (.aload_n 0, 1) := by decide +kernel
theorem dX7_keepFirst_11 : decode cX7_keepFirst 11 = .ok (.getfield 11, 3) := by decide +kernel
theorem dX7_keepFirst_14 : decode cX7_keepFirst 14 = .ok (.iload_n 2, 1) := by decide +kernel
theorem dX7_keepFirst_15 : decode cX7_keepFirst 15 = .ok (.iaload, 1) := by decide +kernel
theorem dX7_keepFirst_16 : decode cX7_keepFirst 16 = .ok (.istore_n 3, 1) := by decide +kernel
theorem dX7_keepFirst_17 : decode cX7_keepFirst 17 = .ok (.aload_n 0, 1) := by decide +kernel
theorem dX7_keepFirst_18 : decode cX7_keepFirst 18 = .ok (.getfield 15, 3) := by decide +kernel
theorem dX7_keepFirst_21 : decode cX7_keepFirst 21 = .ok (.iload_n 2, 1) := by decide +kernel
theorem dX7_keepFirst_22 : decode cX7_keepFirst 22 = .ok (.iaload, 1) := by decide +kernel
theorem dX7_keepFirst_23 : decode cX7_keepFirst 23 = .ok (.istore 4, 2) := by decide +kernel
theorem dX7_keepFirst_25 : decode cX7_keepFirst 25 = .ok (.aload_n 0, 1) := by decide +kernel
theorem dX7_keepFirst_26 : decode cX7_keepFirst 26 = .ok (.iload_n 3, 1) := by decide +kernel
theorem dX7_keepFirst_27 : decode cX7_keepFirst 27 = .ok (.iload 4, 2) := by decide +kernel
theorem dX7_keepFirst_29 : decode cX7_keepFirst 29 = .ok (.invokevirtual 63, 3) := by decide +kernel
theorem dX7_keepFirst_32 : decode cX7_keepFirst 32 = .ok (.istore 5, 2) := by decide +kernel
theorem dX7_keepFirst_34 : decode cX7_keepFirst 34 = .ok (.aload_n 0, 1) := by decide +kernel
theorem dX7_keepFirst_35 : decode cX7_keepFirst 35 = .ok (.iload_n 3, 1) := by decide +kernel
theorem dX7_keepFirst_36 : decode cX7_keepFirst 36 = .ok (.iload 4, 2) := by decide +kernel
theorem dX7_keepFirst_38 : decode cX7_keepFirst 38 = .ok (.invokevirtual 67, 3) := by decide +kernel
theorem dX7_keepFirst_41 : decode cX7_keepFirst 41 = .ok (.istore 6, 2) := by decide +kernel
theorem dX7_keepFirst_43 : decode cX7_keepFirst 43 = .ok (.aload_n 0, 1) := by decide +kernel
theorem dX7_keepFirst_44 : decode cX7_keepFirst 44 = .ok (.iload_n 3, 1) := by decide +kernel
theorem dX7_keepFirst_45 : decode cX7_keepFirst 45 = .ok (.iload 5, 2) := by decide +kernel
theorem dX7_keepFirst_47 : decode cX7_keepFirst 47 = .ok (.iload 6, 2) := by decide +kernel
theorem dX7_keepFirst_49 : decode cX7_keepFirst 49 = .ok (.iconst (-1), 1) := by decide +kernel
theorem dX7_keepFirst_50 : decode cX7_keepFirst 50 = .ok (.invokevirtual 59, 3) := by decide +kernel
theorem dX7_keepFirst_53 : decode cX7_keepFirst 53 = .ok (.aload_n 0, 1) := by decide +kernel
theorem dX7_keepFirst_54 : decode cX7_keepFirst 54 = .ok (.iload 4, 2) := by decide +kernel
theorem dX7_keepFirst_56 : decode cX7_keepFirst 56 = .ok (.iload 6, 2) := by decide +kernel
theorem dX7_keepFirst_58 : decode cX7_keepFirst 58 = .ok (.iload 5, 2) := by decide +kernel
theorem dX7_keepFirst_60 : decode cX7_keepFirst 60 = .ok (.iconst (-1), 1) := by decide +kernel
theorem dX7_keepFirst_61 : decode cX7_keepFirst 61 = .ok (.invokevirtual 59, 3) := by decide +kernel
theorem dX7_keepFirst_64 : decode cX7_keepFirst 64 = .ok (.aload_n 0, 1) := by decide +kernel
theorem dX7_keepFirst_65 : decode cX7_keepFirst 65 = .ok (.getfield 18, 3) := by decide +kernel
theorem dX7_keepFirst_68 : decode cX7_keepFirst 68 = .ok (.iload_n 3, 1) := by decide +kernel
theorem dX7_keepFirst_69 : decode cX7_keepFirst 69 = .ok (.bipush 30, 2) := by decide +kernel
theorem dX7_keepFirst_71 : decode cX7_keepFirst 71 = .ok (.imul, 1) := by decide +kernel
theorem dX7_keepFirst_72 : decode cX7_keepFirst 72 = .ok (.iload 4, 2) := by decide +kernel
theorem dX7_keepFirst_74 : decode cX7_keepFirst 74 = .ok (.iadd, 1) := by decide +kernel
theorem dX7_keepFirst_75 : decode cX7_keepFirst 75 = .ok (.iconst (-1), 1) := by decide +kernel
theorem dX7_keepFirst_76 : decode cX7_keepFirst 76 = .ok (.iastore, 1) := by decide +kernel
theorem dX7_keepFirst_77 : decode cX7_keepFirst 77 = .ok (.iinc 2 1, 3) := by decide +kernel
theorem dX7_keepFirst_80 : decode cX7_keepFirst 80 = .ok (.goto (-78), 3) := by decide +kernel
theorem dX7_keepFirst_83 : decode cX7_keepFirst 83 = .ok (.aload_n 0, 1) := by decide +kernel
theorem dX7_keepFirst_84 : decode cX7_keepFirst 84 = .ok (.aload_n 0, 1) := by decide +kernel
theorem dX7_keepFirst_85 : decode cX7_keepFirst 85 = .ok (.getfield 55, 3) := by decide +kernel
theorem dX7_keepFirst_88 : decode cX7_keepFirst 88 = .ok (.iload_n 1, 1) := by decide +kernel
theorem dX7_keepFirst_89 : decode cX7_keepFirst 89 = .ok (.invokestatic 70, 3) := by decide +kernel
theorem dX7_keepFirst_92 : decode cX7_keepFirst 92 = .ok (.putfield 55, 3) := by decide +kernel
theorem dX7_keepFirst_95 : decode cX7_keepFirst 95 = .ok (.return_, 1) := by decide +kernel
theorem dX7_tally_0 : decode cX7_tally 0 = .ok (.aload_n 0, 1) := by decide +kernel
theorem dX7_tally_1 : decode cX7_tally 1 = .ok (.getfield 36, 3) := by decide +kernel
theorem dX7_tally_4 : decode cX7_tally 4 = .ok (.iload_n 1, 1) := by decide +kernel
theorem dX7_tally_5 : decode cX7_tally 5 = .ok (.dup2, 1) := by decide +kernel
theorem dX7_tally_6 : decode cX7_tally 6 = .ok (.iaload, 1) := by decide +kernel
theorem dX7_tally_7 : decode cX7_tally 7 = .ok (.iload 4, 2) := by decide +kernel
theorem dX7_tally_9 : decode cX7_tally 9 = .ok (.iadd, 1) := by decide +kernel
theorem dX7_tally_10 : decode cX7_tally 10 = .ok (.iastore, 1) := by decide +kernel
theorem dX7_tally_11 : decode cX7_tally 11 = .ok (.aload_n 0, 1) := by decide +kernel
theorem dX7_tally_12 : decode cX7_tally 12 = .ok (.getfield 45, 3) := by decide +kernel
theorem dX7_tally_15 : decode cX7_tally 15 = .ok (.iload_n 1, 1) := by decide +kernel
theorem dX7_tally_16 : decode cX7_tally 16 = .ok (.dup2, 1) := by decide +kernel
theorem dX7_tally_17 : decode cX7_tally 17 = .ok (.iaload, 1) := by decide +kernel
theorem dX7_tally_18 : decode cX7_tally 18 = .ok (.iload_n 2, 1) := by decide +kernel
theorem dX7_tally_19 : decode cX7_tally 19 = .ok (.iload 4, 2) := by decide +kernel
theorem dX7_tally_21 : decode cX7_tally 21 = .ok (.imul, 1) := by decide +kernel
theorem dX7_tally_22 : decode cX7_tally 22 = .ok (.iadd, 1) := by decide +kernel
theorem dX7_tally_23 : decode cX7_tally 23 = .ok (.iastore, 1) := by decide +kernel
theorem dX7_tally_24 : decode cX7_tally 24 = .ok (.aload_n 0, 1) := by decide +kernel
theorem dX7_tally_25 : decode cX7_tally 25 = .ok (.getfield 48, 3) := by decide +kernel
theorem dX7_tally_28 : decode cX7_tally 28 = .ok (.iload_n 1, 1) := by decide +kernel
theorem dX7_tally_29 : decode cX7_tally 29 = .ok (.dup2, 1) := by decide +kernel
theorem dX7_tally_30 : decode cX7_tally 30 = .ok (.iaload, 1) := by decide +kernel
theorem dX7_tally_31 : decode cX7_tally 31 = .ok (.iload_n 3, 1) := by decide +kernel
theorem dX7_tally_32 : decode cX7_tally 32 = .ok (.iload 4, 2) := by decide +kernel
theorem dX7_tally_34 : decode cX7_tally 34 = .ok (.imul, 1) := by decide +kernel
theorem dX7_tally_35 : decode cX7_tally 35 = .ok (.iadd, 1) := by decide +kernel
theorem dX7_tally_36 : decode cX7_tally 36 = .ok (.iastore, 1) := by decide +kernel
theorem dX7_tally_37 : decode cX7_tally 37 = .ok (.iload_n 2, 1) := by decide +kernel
theorem dX7_tally_38 : decode cX7_tally 38 = .ok (.iload_n 3, 1) := by decide +kernel
theorem dX7_tally_39 : decode cX7_tally 39 = .ok (.if_icmp .le 17, 3) := by decide +kernel
theorem dX7_tally_42 : decode cX7_tally 42 = .ok (.aload_n 0, 1) := by decide +kernel
theorem dX7_tally_43 : decode cX7_tally 43 = .ok (.getfield 39, 3) := by decide +kernel
theorem dX7_tally_46 : decode cX7_tally 46 = .ok (.iload_n 1, 1) := by decide +kernel
theorem dX7_tally_47 : decode cX7_tally 47 = .ok (.dup2, 1) := by decide +kernel
theorem dX7_tally_48 : decode cX7_tally 48 = .ok (.iaload, 1) := by decide +kernel
theorem dX7_tally_49 : decode cX7_tally 49 = .ok (.iload 4, 2) := by decide +kernel
theorem dX7_tally_51 : decode cX7_tally 51 = .ok (.iadd, 1) := by decide +kernel
theorem dX7_tally_52 : decode cX7_tally 52 = .ok (.iastore, 1) := by decide +kernel
theorem dX7_tally_53 : decode cX7_tally 53 = .ok (.goto 19, 3) := by decide +kernel
theorem dX7_tally_56 : decode cX7_tally 56 = .ok (.iload_n 2, 1) := by decide +kernel
theorem dX7_tally_57 : decode cX7_tally 57 = .ok (.iload_n 3, 1) := by decide +kernel
theorem dX7_tally_58 : decode cX7_tally 58 = .ok (.if_icmp .ne 14, 3) := by decide +kernel
theorem dX7_tally_61 : decode cX7_tally 61 = .ok (.aload_n 0, 1) := by decide +kernel
theorem dX7_tally_62 : decode cX7_tally 62 = .ok (.getfield 42, 3) := by decide +kernel
theorem dX7_tally_65 : decode cX7_tally 65 = .ok (.iload_n 1, 1) := by decide +kernel
theorem dX7_tally_66 : decode cX7_tally 66 = .ok (.dup2, 1) := by decide +kernel
theorem dX7_tally_67 : decode cX7_tally 67 = .ok (.iaload, 1) := by decide +kernel
theorem dX7_tally_68 : decode cX7_tally 68 = .ok (.iload 4, 2) := by decide +kernel
theorem dX7_tally_70 : decode cX7_tally 70 = .ok (.iadd, 1) := by decide +kernel
theorem dX7_tally_71 : decode cX7_tally 71 = .ok (.iastore, 1) := by decide +kernel
theorem dX7_tally_72 : decode cX7_tally 72 = .ok (.return_, 1) := by decide +kernel
theorem dX7_isTold_0 : decode cX7_isTold 0 = .ok (.aload_n 0, 1) := by decide +kernel
theorem dX7_isTold_1 : decode cX7_isTold 1 = .ok (.getfield 18, 3) := by decide +kernel
theorem dX7_isTold_4 : decode cX7_isTold 4 = .ok (.iload_n 1, 1) := by decide +kernel
theorem dX7_isTold_5 : decode cX7_isTold 5 = .ok (.bipush 30, 2) := by decide +kernel
theorem dX7_isTold_7 : decode cX7_isTold 7 = .ok (.imul, 1) := by decide +kernel
theorem dX7_isTold_8 : decode cX7_isTold 8 = .ok (.iload_n 2, 1) := by decide +kernel
theorem dX7_isTold_9 : decode cX7_isTold 9 = .ok (.iadd, 1) := by decide +kernel
theorem dX7_isTold_10 : decode cX7_isTold 10 = .ok (.iaload, 1) := by decide +kernel
theorem dX7_isTold_11 : decode cX7_isTold 11 = .ok (.iconst (-1), 1) := by decide +kernel
theorem dX7_isTold_12 : decode cX7_isTold 12 = .ok (.if_icmp .eq 7, 3) := by decide +kernel
theorem dX7_isTold_15 : decode cX7_isTold 15 = .ok (.iconst 1, 1) := by decide +kernel
theorem dX7_isTold_16 : decode cX7_isTold 16 = .ok (.goto 4, 3) := by decide +kernel
theorem dX7_isTold_19 : decode cX7_isTold 19 = .ok (.iconst 0, 1) := by decide +kernel
theorem dX7_isTold_20 : decode cX7_isTold 20 = .ok (.ireturn, 1) := by decide +kernel
theorem dX7_homeGoals_0 : decode cX7_homeGoals 0 = .ok (.aload_n 0, 1) := by decide +kernel
theorem dX7_homeGoals_1 : decode cX7_homeGoals 1 = .ok (.iload_n 1, 1) := by decide +kernel
theorem dX7_homeGoals_2 : decode cX7_homeGoals 2 = .ok (.iload_n 2, 1) := by decide +kernel
theorem dX7_homeGoals_3 : decode cX7_homeGoals 3 = .ok (.invokevirtual 75, 3) := by decide +kernel
theorem dX7_homeGoals_6 : decode cX7_homeGoals 6 = .ok (.ifCond .eq 20, 3) := by decide +kernel
theorem dX7_homeGoals_9 : decode cX7_homeGoals 9 = .ok (.aload_n 0, 1) := by decide +kernel
theorem dX7_homeGoals_10 : decode cX7_homeGoals 10 = .ok (.getfield 18, 3) := by decide +kernel
theorem dX7_homeGoals_13 : decode cX7_homeGoals 13 = .ok (.iload_n 1, 1) := by decide +kernel
theorem dX7_homeGoals_14 : decode cX7_homeGoals 14 = .ok (.bipush 30, 2) := by decide +kernel
theorem dX7_homeGoals_16 : decode cX7_homeGoals 16 = .ok (.imul, 1) := by decide +kernel
theorem dX7_homeGoals_17 : decode cX7_homeGoals 17 = .ok (.iload_n 2, 1) := by decide +kernel
theorem dX7_homeGoals_18 : decode cX7_homeGoals 18 = .ok (.iadd, 1) := by decide +kernel
theorem dX7_homeGoals_19 : decode cX7_homeGoals 19 = .ok (.iaload, 1) := by decide +kernel
theorem dX7_homeGoals_20 : decode cX7_homeGoals 20 = .ok (.bipush 100, 2) := by decide +kernel
theorem dX7_homeGoals_22 : decode cX7_homeGoals 22 = .ok (.idiv, 1) := by decide +kernel
theorem dX7_homeGoals_23 : decode cX7_homeGoals 23 = .ok (.goto 4, 3) := by decide +kernel
theorem dX7_homeGoals_26 : decode cX7_homeGoals 26 = .ok (.iconst (-1), 1) := by decide +kernel
theorem dX7_homeGoals_27 : decode cX7_homeGoals 27 = .ok (.ireturn, 1) := by decide +kernel
theorem dX7_awayGoals_0 : decode cX7_awayGoals 0 = .ok (.aload_n 0, 1) := by decide +kernel
theorem dX7_awayGoals_1 : decode cX7_awayGoals 1 = .ok (.iload_n 1, 1) := by decide +kernel
theorem dX7_awayGoals_2 : decode cX7_awayGoals 2 = .ok (.iload_n 2, 1) := by decide +kernel
theorem dX7_awayGoals_3 : decode cX7_awayGoals 3 = .ok (.invokevirtual 75, 3) := by decide +kernel
theorem dX7_awayGoals_6 : decode cX7_awayGoals 6 = .ok (.ifCond .eq 20, 3) := by decide +kernel
theorem dX7_awayGoals_9 : decode cX7_awayGoals 9 = .ok (.aload_n 0, 1) := by decide +kernel
theorem dX7_awayGoals_10 : decode cX7_awayGoals 10 = .ok (.getfield 18, 3) := by decide +kernel
theorem dX7_awayGoals_13 : decode cX7_awayGoals 13 = .ok (.iload_n 1, 1) := by decide +kernel
theorem dX7_awayGoals_14 : decode cX7_awayGoals 14 = .ok (.bipush 30, 2) := by decide +kernel
theorem dX7_awayGoals_16 : decode cX7_awayGoals 16 = .ok (.imul, 1) := by decide +kernel
theorem dX7_awayGoals_17 : decode cX7_awayGoals 17 = .ok (.iload_n 2, 1) := by decide +kernel
theorem dX7_awayGoals_18 : decode cX7_awayGoals 18 = .ok (.iadd, 1) := by decide +kernel
theorem dX7_awayGoals_19 : decode cX7_awayGoals 19 = .ok (.iaload, 1) := by decide +kernel
theorem dX7_awayGoals_20 : decode cX7_awayGoals 20 = .ok (.bipush 100, 2) := by decide +kernel
theorem dX7_awayGoals_22 : decode cX7_awayGoals 22 = .ok (.irem, 1) := by decide +kernel
theorem dX7_awayGoals_23 : decode cX7_awayGoals 23 = .ok (.goto 4, 3) := by decide +kernel
theorem dX7_awayGoals_26 : decode cX7_awayGoals 26 = .ok (.iconst (-1), 1) := by decide +kernel
theorem dX7_awayGoals_27 : decode cX7_awayGoals 27 = .ok (.ireturn, 1) := by decide +kernel
theorem dX7_pointsOf_0 : decode cX7_pointsOf 0 = .ok (.iconst 3, 1) := by decide +kernel
theorem dX7_pointsOf_1 : decode cX7_pointsOf 1 = .ok (.aload_n 0, 1) := by decide +kernel
theorem dX7_pointsOf_2 : decode cX7_pointsOf 2 = .ok (.getfield 39, 3) := by decide +kernel
theorem dX7_pointsOf_5 : decode cX7_pointsOf 5 = .ok (.iload_n 1, 1) := by decide +kernel
theorem dX7_pointsOf_6 : decode cX7_pointsOf 6 = .ok (.iaload, 1) := by decide +kernel
theorem dX7_pointsOf_7 : decode cX7_pointsOf 7 = .ok (.imul, 1) := by decide +kernel
theorem dX7_pointsOf_8 : decode cX7_pointsOf 8 = .ok (.aload_n 0, 1) := by decide +kernel
theorem dX7_pointsOf_9 : decode cX7_pointsOf 9 = .ok (.getfield 42, 3) := by decide +kernel
theorem dX7_pointsOf_12 : decode cX7_pointsOf 12 = .ok (.iload_n 1, 1) := by decide +kernel
theorem dX7_pointsOf_13 : decode cX7_pointsOf 13 = .ok (.iaload, 1) := by decide +kernel
theorem dX7_pointsOf_14 : decode cX7_pointsOf 14 = .ok (.iadd, 1) := by decide +kernel
theorem dX7_pointsOf_15 : decode cX7_pointsOf 15 = .ok (.aload_n 0, 1) := by decide +kernel
theorem dX7_pointsOf_16 : decode cX7_pointsOf 16 = .ok (.getfield 33, 3) := by decide +kernel
theorem dX7_pointsOf_19 : decode cX7_pointsOf 19 = .ok (.iload_n 1, 1) := by decide +kernel
theorem dX7_pointsOf_20 : decode cX7_pointsOf 20 = .ok (.iaload, 1) := by decide +kernel
theorem dX7_pointsOf_21 : decode cX7_pointsOf 21 = .ok (.isub, 1) := by decide +kernel
theorem dX7_pointsOf_22 : decode cX7_pointsOf 22 = .ok (.ireturn, 1) := by decide +kernel
theorem dX7_goalsLessAgainst_0 : decode cX7_goalsLessAgainst 0 = .ok (.aload_n 0, 1) := by decide +kernel
theorem dX7_goalsLessAgainst_1 : decode cX7_goalsLessAgainst 1 = .ok (.getfield 45, 3) := by decide +kernel
theorem dX7_goalsLessAgainst_4 : decode cX7_goalsLessAgainst 4 = .ok (.iload_n 1, 1) := by decide +kernel
theorem dX7_goalsLessAgainst_5 : decode cX7_goalsLessAgainst 5 = .ok (.iaload, 1) := by decide +kernel
theorem dX7_goalsLessAgainst_6 : decode cX7_goalsLessAgainst 6 = .ok (.aload_n 0, 1) := by decide +kernel
theorem dX7_goalsLessAgainst_7 : decode cX7_goalsLessAgainst 7 = .ok (.getfield 48, 3) := by decide +kernel
theorem dX7_goalsLessAgainst_10 : decode cX7_goalsLessAgainst 10 = .ok (.iload_n 1, 1) := by decide +kernel
theorem dX7_goalsLessAgainst_11 : decode cX7_goalsLessAgainst 11 = .ok (.iaload, 1) := by decide +kernel
theorem dX7_goalsLessAgainst_12 : decode cX7_goalsLessAgainst 12 = .ok (.isub, 1) := by decide +kernel
theorem dX7_goalsLessAgainst_13 : decode cX7_goalsLessAgainst 13 = .ok (.ireturn, 1) := by decide +kernel
theorem dX7_gotFrom_0 : decode cX7_gotFrom 0 = .ok (.aload_n 0, 1) := by decide +kernel
theorem dX7_gotFrom_1 : decode cX7_gotFrom 1 = .ok (.iload_n 1, 1) := by decide +kernel
theorem dX7_gotFrom_2 : decode cX7_gotFrom 2 = .ok (.iload_n 2, 1) := by decide +kernel
theorem dX7_gotFrom_3 : decode cX7_gotFrom 3 = .ok (.invokevirtual 63, 3) := by decide +kernel
theorem dX7_gotFrom_6 : decode cX7_gotFrom 6 = .ok (.aload_n 0, 1) := by decide +kernel
theorem dX7_gotFrom_7 : decode cX7_gotFrom 7 = .ok (.iload_n 1, 1) := by decide +kernel
theorem dX7_gotFrom_8 : decode cX7_gotFrom 8 = .ok (.iload_n 2, 1) := by decide +kernel
theorem dX7_gotFrom_9 : decode cX7_gotFrom 9 = .ok (.invokevirtual 67, 3) := by decide +kernel
theorem dX7_gotFrom_12 : decode cX7_gotFrom 12 = .ok (.invokestatic 79, 3) := by decide +kernel
theorem dX7_gotFrom_15 : decode cX7_gotFrom 15 = .ok (.istore_n 3, 1) := by decide +kernel
theorem dX7_gotFrom_16 : decode cX7_gotFrom 16 = .ok (.iload_n 3, 1) := by decide +kernel
theorem dX7_gotFrom_17 : decode cX7_gotFrom 17 = .ok (.aload_n 0, 1) := by decide +kernel
theorem dX7_gotFrom_18 : decode cX7_gotFrom 18 = .ok (.iload_n 2, 1) := by decide +kernel
theorem dX7_gotFrom_19 : decode cX7_gotFrom 19 = .ok (.iload_n 1, 1) := by decide +kernel
theorem dX7_gotFrom_20 : decode cX7_gotFrom 20 = .ok (.invokevirtual 67, 3) := by decide +kernel
theorem dX7_gotFrom_23 : decode cX7_gotFrom 23 = .ok (.aload_n 0, 1) := by decide +kernel
theorem dX7_gotFrom_24 : decode cX7_gotFrom 24 = .ok (.iload_n 2, 1) := by decide +kernel
theorem dX7_gotFrom_25 : decode cX7_gotFrom 25 = .ok (.iload_n 1, 1) := by decide +kernel
theorem dX7_gotFrom_26 : decode cX7_gotFrom 26 = .ok (.invokevirtual 63, 3) := by decide +kernel
theorem dX7_gotFrom_29 : decode cX7_gotFrom 29 = .ok (.invokestatic 79, 3) := by decide +kernel
theorem dX7_gotFrom_32 : decode cX7_gotFrom 32 = .ok (.iadd, 1) := by decide +kernel
theorem dX7_gotFrom_33 : decode cX7_gotFrom 33 = .ok (.ireturn, 1) := by decide +kernel
theorem dX7_pointsFor_0 : decode cX7_pointsFor 0 = .ok (.iload_n 0, 1) := by decide +kernel
theorem dX7_pointsFor_1 : decode cX7_pointsFor 1 = .ok (.iconst (-1), 1) := by decide +kernel
theorem dX7_pointsFor_2 : decode cX7_pointsFor 2 = .ok (.if_icmp .eq 8, 3) := by decide +kernel
theorem dX7_pointsFor_5 : decode cX7_pointsFor 5 = .ok (.iload_n 0, 1) := by decide +kernel
theorem dX7_pointsFor_6 : decode cX7_pointsFor 6 = .ok (.iload_n 1, 1) := by decide +kernel
theorem dX7_pointsFor_7 : decode cX7_pointsFor 7 = .ok (.if_icmp .ge 5, 3) := by decide +kernel
theorem dX7_pointsFor_10 : decode cX7_pointsFor 10 = .ok (.iconst 0, 1) := by decide +kernel
theorem dX7_pointsFor_11 : decode cX7_pointsFor 11 = .ok (.ireturn, 1) := by decide +kernel
theorem dX7_pointsFor_12 : decode cX7_pointsFor 12 = .ok (.iload_n 0, 1) := by decide +kernel
theorem dX7_pointsFor_13 : decode cX7_pointsFor 13 = .ok (.iload_n 1, 1) := by decide +kernel
theorem dX7_pointsFor_14 : decode cX7_pointsFor 14 = .ok (.if_icmp .le 7, 3) := by decide +kernel
theorem dX7_pointsFor_17 : decode cX7_pointsFor 17 = .ok (.iconst 3, 1) := by decide +kernel
theorem dX7_pointsFor_18 : decode cX7_pointsFor 18 = .ok (.goto 4, 3) := by decide +kernel
theorem dX7_pointsFor_21 : decode cX7_pointsFor 21 = .ok (.iconst 1, 1) := by decide +kernel
theorem dX7_pointsFor_22 : decode cX7_pointsFor 22 = .ok (.ireturn, 1) := by decide +kernel
theorem dX7_playedIn_0 : decode cX7_playedIn 0 = .ok (.iconst 0, 1) := by decide +kernel
theorem dX7_playedIn_1 : decode cX7_playedIn 1 = .ok (.istore 4, 2) := by decide +kernel
theorem dX7_playedIn_3 : decode cX7_playedIn 3 = .ok (.iconst 0, 1) := by decide +kernel
theorem dX7_playedIn_4 : decode cX7_playedIn 4 = .ok (.istore 5, 2) := by decide +kernel
theorem dX7_playedIn_6 : decode cX7_playedIn 6 = .ok (.iload 5, 2) := by decide +kernel
theorem dX7_playedIn_8 : decode cX7_playedIn 8 = .ok (.aload_n 1, 1) := by decide +kernel
theorem dX7_playedIn_9 : decode cX7_playedIn 9 = .ok (.getfield 82, 3) := by decide +kernel
theorem dX7_playedIn_12 : decode cX7_playedIn 12 = .ok (.if_icmp .ge 32, 3) := by decide +kernel
theorem dX7_playedIn_15 : decode cX7_playedIn 15 = .ok (.aload_n 1, 1) := by decide +kernel
theorem dX7_playedIn_16 : decode cX7_playedIn 16 = .ok (.iload 5, 2) := by decide +kernel
theorem dX7_playedIn_18 : decode cX7_playedIn 18 = .ok (.iload_n 2, 1) := by decide +kernel
theorem dX7_playedIn_19 : decode cX7_playedIn 19 = .ok (.iload_n 3, 1) := by decide +kernel
theorem dX7_playedIn_20 : decode cX7_playedIn 20 = .ok (.invokevirtual 87, 3) := by decide +kernel
theorem dX7_playedIn_23 : decode cX7_playedIn 23 = .ok (.ifCond .eq 15, 3) := by decide +kernel
theorem dX7_playedIn_26 : decode cX7_playedIn 26 = .ok (.iload 4, 2) := by decide +kernel
theorem dX7_playedIn_28 : decode cX7_playedIn 28 = .ok (.aload_n 0, 1) := by decide +kernel
theorem dX7_playedIn_29 : decode cX7_playedIn 29 = .ok (.getfield 36, 3) := by decide +kernel
theorem dX7_playedIn_32 : decode cX7_playedIn 32 = .ok (.iload 5, 2) := by decide +kernel
theorem dX7_playedIn_34 : decode cX7_playedIn 34 = .ok (.iaload, 1) := by decide +kernel
theorem dX7_playedIn_35 : decode cX7_playedIn 35 = .ok (.iadd, 1) := by decide +kernel
theorem dX7_playedIn_36 : decode cX7_playedIn 36 = .ok (.istore 4, 2) := by decide +kernel
theorem dX7_playedIn_38 : decode cX7_playedIn 38 = .ok (.iinc 5 1, 3) := by decide +kernel
theorem dX7_playedIn_41 : decode cX7_playedIn 41 = .ok (.goto (-35), 3) := by decide +kernel
theorem dX7_playedIn_44 : decode cX7_playedIn 44 = .ok (.iload 4, 2) := by decide +kernel
theorem dX7_playedIn_46 : decode cX7_playedIn 46 = .ok (.ireturn, 1) := by decide +kernel
theorem dX8_init_0 : decode cX8_init 0 = .ok (.aload_n 0, 1) := by decide +kernel
theorem dX8_init_1 : decode cX8_init 1 = .ok (.invokespecial 3, 3) := by decide +kernel
theorem dX8_init_4 : decode cX8_init 4 = .ok (.aload_n 0, 1) := by decide +kernel
theorem dX8_init_5 : decode cX8_init 5 = .ok (.aload_n 1, 1) := by decide +kernel
theorem dX8_init_6 : decode cX8_init 6 = .ok (.putfield 9, 3) := by decide +kernel
theorem dX8_init_9 : decode cX8_init 9 = .ok (.aload_n 0, 1) := by decide +kernel
theorem dX8_init_10 : decode cX8_init 10 = .ok (.aload_n 2, 1) := by decide +kernel
theorem dX8_init_11 : decode cX8_init 11 = .ok (.putfield 15, 3) := by decide +kernel
theorem dX8_init_14 : decode cX8_init 14 = .ok (.aload_n 0, 1) := by decide +kernel
theorem dX8_init_15 : decode cX8_init 15 = .ok (.bipush 12, 2) := by decide +kernel
theorem dX8_init_17 : decode cX8_init 17 = .ok (.newarray .int, 2) := by decide +kernel
theorem dX8_init_19 : decode cX8_init 19 = .ok (.putfield 19, 3) := by decide +kernel
theorem dX8_init_22 : decode cX8_init 22 = .ok (.aload_n 0, 1) := by decide +kernel
theorem dX8_init_23 : decode cX8_init 23 = .ok (.bipush 30, 2) := by decide +kernel
theorem dX8_init_25 : decode cX8_init 25 = .ok (.newarray .int, 2) := by decide +kernel
theorem dX8_init_27 : decode cX8_init 27 = .ok (.putfield 23, 3) := by decide +kernel
theorem dX8_init_30 : decode cX8_init 30 = .ok (.aload_n 0, 1) := by decide +kernel
theorem dX8_init_31 : decode cX8_init 31 = .ok (.bipush 30, 2) := by decide +kernel
theorem dX8_init_33 : decode cX8_init 33 = .ok (.newarray .int, 2) := by decide +kernel
theorem dX8_init_35 : decode cX8_init 35 = .ok (.putfield 26, 3) := by decide +kernel
theorem dX8_init_38 : decode cX8_init 38 = .ok (.aload_n 0, 1) := by decide +kernel
theorem dX8_init_39 : decode cX8_init 39 = .ok (.bipush 96, 2) := by decide +kernel
theorem dX8_init_41 : decode cX8_init 41 = .ok (.newarray .int, 2) := by decide +kernel
theorem dX8_init_43 : decode cX8_init 43 = .ok (.putfield 29, 3) := by decide +kernel
theorem dX8_init_46 : decode cX8_init 46 = .ok (.return_, 1) := by decide +kernel
theorem dX8_arrange_0 : decode cX8_arrange 0 = .ok (.aload_n 0, 1) := by decide +kernel
theorem dX8_arrange_1 : decode cX8_arrange 1 = .ok (.aload_n 0, 1) := by decide +kernel
theorem dX8_arrange_2 : decode cX8_arrange 2 = .ok (.getfield 9, 3) := by decide +kernel
theorem dX8_arrange_5 : decode cX8_arrange 5 = .ok (.iload_n 1, 1) := by decide +kernel
theorem dX8_arrange_6 : decode cX8_arrange 6 = .ok (.aload_n 0, 1) := by decide +kernel
theorem dX8_arrange_7 : decode cX8_arrange 7 = .ok (.getfield 19, 3) := by decide +kernel
theorem dX8_arrange_10 : decode cX8_arrange 10 = .ok (.invokevirtual 32, 3) := by decide +kernel
theorem dX8_arrange_13 : decode cX8_arrange 13 = .ok (.putfield 38, 3) := by decide +kernel
theorem dX8_arrange_16 : decode cX8_arrange 16 = .ok (.iconst 0, 1) := by decide +kernel
theorem dX8_arrange_17 : decode cX8_arrange 17 = .ok (.istore_n 2, 1) := by decide +kernel
theorem dX8_arrange_18 : decode cX8_arrange 18 = .ok (.iload_n 2, 1) := by decide +kernel
theorem dX8_arrange_19 : decode cX8_arrange 19 = .ok (.aload_n 0, 1) := by decide +kernel
theorem dX8_arrange_20 : decode cX8_arrange 20 = .ok (.getfield 38, 3) := by decide +kernel
theorem dX8_arrange_23 : decode cX8_arrange 23 = .ok (.if_icmp .ge 33, 3) := by decide +kernel
theorem dX8_arrange_26 : decode cX8_arrange 26 = .ok (.aload_n 0, 1) := by decide +kernel
theorem dX8_arrange_27 : decode cX8_arrange 27 = .ok (.getfield 26, 3) := by decide +kernel
theorem dX8_arrange_30 : decode cX8_arrange 30 = .ok (.aload_n 0, 1) := by decide +kernel
theorem dX8_arrange_31 : decode cX8_arrange 31 = .ok (.getfield 19, 3) := by decide +kernel
theorem dX8_arrange_34 : decode cX8_arrange 34 = .ok (.iload_n 2, 1) := by decide +kernel
theorem dX8_arrange_35 : decode cX8_arrange 35 = .ok (.iaload, 1) := by decide +kernel
theorem dX8_arrange_36 : decode cX8_arrange 36 = .ok (.aload_n 0, 1) := by decide +kernel
theorem dX8_arrange_37 : decode cX8_arrange 37 = .ok (.getfield 15, 3) := by decide +kernel
theorem dX8_arrange_40 : decode cX8_arrange 40 = .ok (.aload_n 0, 1) := by decide +kernel
theorem dX8_arrange_41 : decode cX8_arrange 41 = .ok (.getfield 19, 3) := by decide +kernel
theorem dX8_arrange_44 : decode cX8_arrange 44 = .ok (.iload_n 2, 1) := by decide +kernel
theorem dX8_arrange_45 : decode cX8_arrange 45 = .ok (.iaload, 1) := by decide +kernel
theorem dX8_arrange_46 : decode cX8_arrange 46 = .ok (.invokevirtual 42, 3) := by decide +kernel
theorem dX8_arrange_49 : decode cX8_arrange 49 = .ok (.iastore, 1) := by decide +kernel
theorem dX8_arrange_50 : decode cX8_arrange 50 = .ok (.iinc 2 1, 3) := by decide +kernel
theorem dX8_arrange_53 : decode cX8_arrange 53 = .ok (.goto (-35), 3) := by decide +kernel
theorem dX8_arrange_56 : decode cX8_arrange 56 = .ok (.iconst 0, 1) := by decide +kernel
theorem dX8_arrange_57 : decode cX8_arrange 57 = .ok (.istore_n 2, 1) := by decide +kernel
theorem dX8_arrange_58 : decode cX8_arrange 58 = .ok (.iload_n 2, 1) := by decide +kernel
theorem dX8_arrange_59 : decode cX8_arrange 59 = .ok (.aload_n 0, 1) := by decide +kernel
theorem dX8_arrange_60 : decode cX8_arrange 60 = .ok (.getfield 38, 3) := by decide +kernel
theorem dX8_arrange_63 : decode cX8_arrange 63 = .ok (.if_icmp .ge 30, 3) := by decide +kernel
theorem dX8_arrange_66 : decode cX8_arrange 66 = .ok (.aload_n 0, 1) := by decide +kernel
theorem dX8_arrange_67 : decode cX8_arrange 67 = .ok (.getfield 23, 3) := by decide +kernel
theorem dX8_arrange_70 : decode cX8_arrange 70 = .ok (.aload_n 0, 1) := by decide +kernel
theorem dX8_arrange_71 : decode cX8_arrange 71 = .ok (.getfield 19, 3) := by decide +kernel
theorem dX8_arrange_74 : decode cX8_arrange 74 = .ok (.iload_n 2, 1) := by decide +kernel
theorem dX8_arrange_75 : decode cX8_arrange 75 = .ok (.iaload, 1) := by decide +kernel
theorem dX8_arrange_76 : decode cX8_arrange 76 = .ok (.aload_n 0, 1) := by decide +kernel
theorem dX8_arrange_77 : decode cX8_arrange 77 = .ok (.aload_n 0, 1) := by decide +kernel
theorem dX8_arrange_78 : decode cX8_arrange 78 = .ok (.getfield 19, 3) := by decide +kernel
theorem dX8_arrange_81 : decode cX8_arrange 81 = .ok (.iload_n 2, 1) := by decide +kernel
theorem dX8_arrange_82 : decode cX8_arrange 82 = .ok (.iaload, 1) := by decide +kernel
theorem dX8_arrange_83 : decode cX8_arrange 83 = .ok (.invokevirtual 48, 3) := by decide +kernel
theorem dX8_arrange_86 : decode cX8_arrange 86 = .ok (.iastore, 1) := by decide +kernel
theorem dX8_arrange_87 : decode cX8_arrange 87 = .ok (.iinc 2 1, 3) := by decide +kernel
theorem dX8_arrange_90 : decode cX8_arrange 90 = .ok (.goto (-32), 3) := by decide +kernel
theorem dX8_arrange_93 : decode cX8_arrange 93 = .ok (.iconst 1, 1) := by decide +kernel
theorem dX8_arrange_94 : decode cX8_arrange 94 = .ok (.istore_n 2, 1) := by decide +kernel
theorem dX8_arrange_95 : decode cX8_arrange 95 = .ok (.iload_n 2, 1) := by decide +kernel
theorem dX8_arrange_96 : decode cX8_arrange 96 = .ok (.aload_n 0, 1) := by decide +kernel
theorem dX8_arrange_97 : decode cX8_arrange 97 = .ok (.getfield 38, 3) := by decide +kernel
theorem dX8_arrange_100 : decode cX8_arrange 100 = .ok (.if_icmp .ge 14, 3) := by decide +kernel
theorem dX8_arrange_103 : decode cX8_arrange 103 = .ok (.aload_n 0, 1) := by decide +kernel
theorem dX8_arrange_104 : decode cX8_arrange 104 = .ok (.iload_n 2, 1) := by decide +kernel
theorem dX8_arrange_105 : decode cX8_arrange 105 = .ok (.invokevirtual 51, 3) := by decide +kernel
theorem dX8_arrange_108 : decode cX8_arrange 108 = .ok (.iinc 2 1, 3) := by decide +kernel
theorem dX8_arrange_111 : decode cX8_arrange 111 = .ok (.goto (-16), 3) := by decide +kernel
theorem dX8_arrange_114 : decode cX8_arrange 114 = .ok (.return_, 1) := by decide +kernel
theorem dX8_rankNow_0 : decode cX8_rankNow 0 = .ok (.iconst 0, 1) := by decide +kernel
theorem dX8_rankNow_1 : decode cX8_rankNow 1 = .ok (.istore_n 2, 1) := by decide +kernel
theorem dX8_rankNow_2 : decode cX8_rankNow 2 = .ok (.iconst 0, 1) := by decide +kernel
theorem dX8_rankNow_3 : decode cX8_rankNow 3 = .ok (.istore_n 3, 1) := by decide +kernel
theorem dX8_rankNow_4 : decode cX8_rankNow 4 = .ok (.iload_n 3, 1) := by decide +kernel
theorem dX8_rankNow_5 : decode cX8_rankNow 5 = .ok (.aload_n 0, 1) := by decide +kernel
theorem dX8_rankNow_6 : decode cX8_rankNow 6 = .ok (.getfield 38, 3) := by decide +kernel
theorem dX8_rankNow_9 : decode cX8_rankNow 9 = .ok (.if_icmp .ge 52, 3) := by decide +kernel
theorem dX8_rankNow_12 : decode cX8_rankNow 12 = .ok (.aload_n 0, 1) := by decide +kernel
theorem dX8_rankNow_13 : decode cX8_rankNow 13 = .ok (.getfield 9, 3) := by decide +kernel
theorem dX8_rankNow_16 : decode cX8_rankNow 16 = .ok (.getfield 55, 3) := by decide +kernel
theorem dX8_rankNow_19 : decode cX8_rankNow 19 = .ok (.aload_n 0, 1) := by decide +kernel
theorem dX8_rankNow_20 : decode cX8_rankNow 20 = .ok (.getfield 19, 3) := by decide +kernel
theorem dX8_rankNow_23 : decode cX8_rankNow 23 = .ok (.iload_n 3, 1) := by decide +kernel
theorem dX8_rankNow_24 : decode cX8_rankNow 24 = .ok (.iaload, 1) := by decide +kernel
theorem dX8_rankNow_25 : decode cX8_rankNow 25 = .ok (.iaload, 1) := by decide +kernel
theorem dX8_rankNow_26 : decode cX8_rankNow 26 = .ok (.aload_n 0, 1) := by decide +kernel
theorem dX8_rankNow_27 : decode cX8_rankNow 27 = .ok (.getfield 9, 3) := by decide +kernel
theorem dX8_rankNow_30 : decode cX8_rankNow 30 = .ok (.getfield 55, 3) := by decide +kernel
theorem dX8_rankNow_33 : decode cX8_rankNow 33 = .ok (.iload_n 1, 1) := by decide +kernel
theorem dX8_rankNow_34 : decode cX8_rankNow 34 = .ok (.iaload, 1) := by decide +kernel
theorem dX8_rankNow_35 : decode cX8_rankNow 35 = .ok (.if_icmp .ne 20, 3) := by decide +kernel
theorem dX8_rankNow_38 : decode cX8_rankNow 38 = .ok (.aload_n 0, 1) := by decide +kernel
theorem dX8_rankNow_39 : decode cX8_rankNow 39 = .ok (.aload_n 0, 1) := by decide +kernel
theorem dX8_rankNow_40 : decode cX8_rankNow 40 = .ok (.getfield 19, 3) := by decide +kernel
theorem dX8_rankNow_43 : decode cX8_rankNow 43 = .ok (.iload_n 3, 1) := by decide +kernel
theorem dX8_rankNow_44 : decode cX8_rankNow 44 = .ok (.iaload, 1) := by decide +kernel
theorem dX8_rankNow_45 : decode cX8_rankNow 45 = .ok (.iload_n 1, 1) := by decide +kernel
theorem dX8_rankNow_46 : decode cX8_rankNow 46 = .ok (.invokevirtual 58, 3) := by decide +kernel
theorem dX8_rankNow_49 : decode cX8_rankNow 49 = .ok (.ifCond .eq 6, 3) := by decide +kernel
theorem dX8_rankNow_52 : decode cX8_rankNow 52 = .ok (.iinc 2 1, 3) := by decide +kernel
theorem dX8_rankNow_55 : decode cX8_rankNow 55 = .ok (.iinc 3 1, 3) := by decide +kernel
theorem dX8_rankNow_58 : decode cX8_rankNow 58 = .ok (.goto (-54), 3) := by decide +kernel
theorem dX8_rankNow_61 : decode cX8_rankNow 61 = .ok (.iload_n 2, 1) := by decide +kernel
theorem dX8_rankNow_62 : decode cX8_rankNow 62 = .ok (.iconst 1, 1) := by decide +kernel
theorem dX8_rankNow_63 : decode cX8_rankNow 63 = .ok (.iadd, 1) := by decide +kernel
theorem dX8_rankNow_64 : decode cX8_rankNow 64 = .ok (.ireturn, 1) := by decide +kernel
theorem dX8_outranks_0 : decode cX8_outranks 0 = .ok (.aload_n 0, 1) := by decide +kernel
theorem dX8_outranks_1 : decode cX8_outranks 1 = .ok (.getfield 26, 3) := by decide +kernel
theorem dX8_outranks_4 : decode cX8_outranks 4 = .ok (.iload_n 1, 1) := by decide +kernel
theorem dX8_outranks_5 : decode cX8_outranks 5 = .ok (.iaload, 1) := by decide +kernel
theorem dX8_outranks_6 : decode cX8_outranks 6 = .ok (.aload_n 0, 1) := by decide +kernel
theorem dX8_outranks_7 : decode cX8_outranks 7 = .ok (.getfield 26, 3) := by decide +kernel
theorem dX8_outranks_10 : decode cX8_outranks 10 = .ok (.iload_n 2, 1) := by decide +kernel
theorem dX8_outranks_11 : decode cX8_outranks 11 = .ok (.iaload, 1) := by decide +kernel
theorem dX8_outranks_12 : decode cX8_outranks 12 = .ok (.isub, 1) := by decide +kernel
theorem dX8_outranks_13 : decode cX8_outranks 13 = .ok (.istore_n 3, 1) := by decide +kernel
theorem dX8_outranks_14 : decode cX8_outranks 14 = .ok (.iload_n 3, 1) := by decide +kernel
theorem dX8_outranks_15 : decode cX8_outranks 15 = .ok (.ifCond .ne 21, 3) := by decide +kernel
theorem dX8_outranks_18 : decode cX8_outranks 18 = .ok (.aload_n 0, 1) := by decide +kernel
theorem dX8_outranks_19 : decode cX8_outranks 19 = .ok (.getfield 15, 3) := by decide +kernel
theorem dX8_outranks_22 : decode cX8_outranks 22 = .ok (.iload_n 1, 1) := by decide +kernel
theorem dX8_outranks_23 : decode cX8_outranks 23 = .ok (.invokevirtual 62, 3) := by decide +kernel
theorem dX8_outranks_26 : decode cX8_outranks 26 = .ok (.aload_n 0, 1) := by decide +kernel
theorem dX8_outranks_27 : decode cX8_outranks 27 = .ok (.getfield 15, 3) := by decide +kernel
theorem dX8_outranks_30 : decode cX8_outranks 30 = .ok (.iload_n 2, 1) := by decide +kernel
theorem dX8_outranks_31 : decode cX8_outranks 31 = .ok (.invokevirtual 62, 3) := by decide +kernel
theorem dX8_outranks_34 : decode cX8_outranks 34 = .ok (.isub, 1) := by decide +kernel
theorem dX8_outranks_35 : decode cX8_outranks 35 = .ok (.istore_n 3, 1) := by decide +kernel
theorem dX8_outranks_36 : decode cX8_outranks 36 = .ok (.iload_n 3, 1) := by decide +kernel
theorem dX8_outranks_37 : decode cX8_outranks 37 = .ok (.ifCond .ne 23, 3) := by decide +kernel
theorem dX8_outranks_40 : decode cX8_outranks 40 = .ok (.aload_n 0, 1) := by decide +kernel
theorem dX8_outranks_41 : decode cX8_outranks 41 = .ok (.getfield 15, 3) := by decide +kernel
theorem dX8_outranks_44 : decode cX8_outranks 44 = .ok (.getfield 65, 3) := by decide +kernel
theorem dX8_outranks_47 : decode cX8_outranks 47 = .ok (.iload_n 1, 1) := by decide +kernel
theorem dX8_outranks_48 : decode cX8_outranks 48 = .ok (.iaload, 1) := by decide +kernel
theorem dX8_outranks_49 : decode cX8_outranks 49 = .ok (.aload_n 0, 1) := by decide +kernel
theorem dX8_outranks_50 : decode cX8_outranks 50 = .ok (.getfield 15, 3) := by decide +kernel
theorem dX8_outranks_53 : decode cX8_outranks 53 = .ok (.getfield 65, 3) := by decide +kernel
theorem dX8_outranks_56 : decode cX8_outranks 56 = .ok (.iload_n 2, 1) := by decide +kernel
theorem dX8_outranks_57 : decode cX8_outranks 57 = .ok (.iaload, 1) := by decide +kernel
theorem dX8_outranks_58 : decode cX8_outranks 58 = .ok (.isub, 1) := by decide +kernel
theorem dX8_outranks_59 : decode cX8_outranks 59 = .ok (.istore_n 3, 1) := by decide +kernel
theorem dX8_outranks_60 : decode cX8_outranks 60 = .ok (.iload_n 3, 1) := by decide +kernel
theorem dX8_outranks_61 : decode cX8_outranks 61 = .ok (.ifCond .eq 15, 3) := by decide +kernel
theorem dX8_outranks_64 : decode cX8_outranks 64 = .ok (.iload_n 3, 1) := by decide +kernel
theorem dX8_outranks_65 : decode cX8_outranks 65 = .ok (.ifCond .le 7, 3) := by decide +kernel
theorem dX8_outranks_68 : decode cX8_outranks 68 = .ok (.iconst 1, 1) := by decide +kernel
theorem dX8_outranks_69 : decode cX8_outranks 69 = .ok (.goto 17, 3) := by decide +kernel
theorem dX8_outranks_72 : decode cX8_outranks 72 = .ok (.iconst 0, 1) := by decide +kernel
theorem dX8_outranks_73 : decode cX8_outranks 73 = .ok (.goto 13, 3) := by decide +kernel
theorem dX8_outranks_76 : decode cX8_outranks 76 = .ok (.iload_n 1, 1) := by decide +kernel
theorem dX8_outranks_77 : decode cX8_outranks 77 = .ok (.iload_n 2, 1) := by decide +kernel
theorem dX8_outranks_78 : decode cX8_outranks 78 = .ok (.if_icmp .ge 7, 3) := by decide +kernel
theorem dX8_outranks_81 : decode cX8_outranks 81 = .ok (.iconst 1, 1) := by decide +kernel
theorem dX8_outranks_82 : decode cX8_outranks 82 = .ok (.goto 4, 3) := by decide +kernel
theorem dX8_outranks_85 : decode cX8_outranks 85 = .ok (.iconst 0, 1) := by decide +kernel
theorem dX8_outranks_86 : decode cX8_outranks 86 = .ok (.ireturn, 1) := by decide +kernel
theorem dX8_sink_0 : decode cX8_sink 0 = .ok (.aload_n 0, 1) := by decide +kernel
theorem dX8_sink_1 : decode cX8_sink 1 = .ok (.getfield 19, 3) := by decide +kernel
theorem dX8_sink_4 : decode cX8_sink 4 = .ok (.iload_n 1, 1) := by decide +kernel
theorem dX8_sink_5 : decode cX8_sink 5 = .ok (.iaload, 1) := by decide +kernel
theorem dX8_sink_6 : decode cX8_sink 6 = .ok (.istore_n 2, 1) := by decide +kernel
theorem dX8_sink_7 : decode cX8_sink 7 = .ok (.iload_n 1, 1) := by decide +kernel
theorem dX8_sink_8 : decode cX8_sink 8 = .ok (.istore_n 3, 1) := by decide +kernel
theorem dX8_sink_9 : decode cX8_sink 9 = .ok (.iload_n 3, 1) := by decide +kernel
theorem dX8_sink_10 : decode cX8_sink 10 = .ok (.ifCond .le 39, 3) := by decide +kernel
theorem dX8_sink_13 : decode cX8_sink 13 = .ok (.aload_n 0, 1) := by decide +kernel
theorem dX8_sink_14 : decode cX8_sink 14 = .ok (.iload_n 2, 1) := by decide +kernel
theorem dX8_sink_15 : decode cX8_sink 15 = .ok (.aload_n 0, 1) := by decide +kernel
theorem dX8_sink_16 : decode cX8_sink 16 = .ok (.getfield 19, 3) := by decide +kernel
theorem dX8_sink_19 : decode cX8_sink 19 = .ok (.iload_n 3, 1) := by decide +kernel
theorem dX8_sink_20 : decode cX8_sink 20 = .ok (.iconst 1, 1) := by decide +kernel
theorem dX8_sink_21 : decode cX8_sink 21 = .ok (.isub, 1) := by decide +kernel
theorem dX8_sink_22 : decode cX8_sink 22 = .ok (.iaload, 1) := by decide +kernel
theorem dX8_sink_23 : decode cX8_sink 23 = .ok (.invokevirtual 68, 3) := by decide +kernel
theorem dX8_sink_26 : decode cX8_sink 26 = .ok (.ifCond .eq 23, 3) := by decide +kernel
theorem dX8_sink_29 : decode cX8_sink 29 = .ok (.aload_n 0, 1) := by decide +kernel
theorem dX8_sink_30 : decode cX8_sink 30 = .ok (.getfield 19, 3) := by decide +kernel
theorem dX8_sink_33 : decode cX8_sink 33 = .ok (.iload_n 3, 1) := by decide +kernel
theorem dX8_sink_34 : decode cX8_sink 34 = .ok (.aload_n 0, 1) := by decide +kernel
theorem dX8_sink_35 : decode cX8_sink 35 = .ok (.getfield 19, 3) := by decide +kernel
theorem dX8_sink_38 : decode cX8_sink 38 = .ok (.iload_n 3, 1) := by decide +kernel
theorem dX8_sink_39 : decode cX8_sink 39 = .ok (.iconst 1, 1) := by decide +kernel
theorem dX8_sink_40 : decode cX8_sink 40 = .ok (.isub, 1) := by decide +kernel
theorem dX8_sink_41 : decode cX8_sink 41 = .ok (.iaload, 1) := by decide +kernel
theorem dX8_sink_42 : decode cX8_sink 42 = .ok (.iastore, 1) := by decide +kernel
theorem dX8_sink_43 : decode cX8_sink 43 = .ok (.iinc 3 (-1), 3) := by decide +kernel
theorem dX8_sink_46 : decode cX8_sink 46 = .ok (.goto (-37), 3) := by decide +kernel
theorem dX8_sink_49 : decode cX8_sink 49 = .ok (.aload_n 0, 1) := by decide +kernel
theorem dX8_sink_50 : decode cX8_sink 50 = .ok (.getfield 19, 3) := by decide +kernel
theorem dX8_sink_53 : decode cX8_sink 53 = .ok (.iload_n 3, 1) := by decide +kernel
theorem dX8_sink_54 : decode cX8_sink 54 = .ok (.iload_n 2, 1) := by decide +kernel
theorem dX8_sink_55 : decode cX8_sink 55 = .ok (.iastore, 1) := by decide +kernel
theorem dX8_sink_56 : decode cX8_sink 56 = .ok (.return_, 1) := by decide +kernel
theorem dX8_isAhead_0 : decode cX8_isAhead 0 = .ok (.aload_n 0, 1) := by decide +kernel
theorem dX8_isAhead_1 : decode cX8_isAhead 1 = .ok (.getfield 23, 3) := by decide +kernel
theorem dX8_isAhead_4 : decode cX8_isAhead 4 = .ok (.iload_n 1, 1) := by decide +kernel
theorem dX8_isAhead_5 : decode cX8_isAhead 5 = .ok (.iaload, 1) := by decide +kernel
theorem dX8_isAhead_6 : decode cX8_isAhead 6 = .ok (.aload_n 0, 1) := by decide +kernel
theorem dX8_isAhead_7 : decode cX8_isAhead 7 = .ok (.getfield 23, 3) := by decide +kernel
theorem dX8_isAhead_10 : decode cX8_isAhead 10 = .ok (.iload_n 2, 1) := by decide +kernel
theorem dX8_isAhead_11 : decode cX8_isAhead 11 = .ok (.iaload, 1) := by decide +kernel
theorem dX8_isAhead_12 : decode cX8_isAhead 12 = .ok (.if_icmp .eq 24, 3) := by decide +kernel
theorem dX8_isAhead_15 : decode cX8_isAhead 15 = .ok (.aload_n 0, 1) := by decide +kernel
theorem dX8_isAhead_16 : decode cX8_isAhead 16 = .ok (.getfield 23, 3) := by decide +kernel
theorem dX8_isAhead_19 : decode cX8_isAhead 19 = .ok (.iload_n 1, 1) := by decide +kernel
theorem dX8_isAhead_20 : decode cX8_isAhead 20 = .ok (.iaload, 1) := by decide +kernel
theorem dX8_isAhead_21 : decode cX8_isAhead 21 = .ok (.aload_n 0, 1) := by decide +kernel
theorem dX8_isAhead_22 : decode cX8_isAhead 22 = .ok (.getfield 23, 3) := by decide +kernel
theorem dX8_isAhead_25 : decode cX8_isAhead 25 = .ok (.iload_n 2, 1) := by decide +kernel
theorem dX8_isAhead_26 : decode cX8_isAhead 26 = .ok (.iaload, 1) := by decide +kernel
theorem dX8_isAhead_27 : decode cX8_isAhead 27 = .ok (.if_icmp .ge 7, 3) := by decide +kernel
theorem dX8_isAhead_30 : decode cX8_isAhead 30 = .ok (.iconst 1, 1) := by decide +kernel
theorem dX8_isAhead_31 : decode cX8_isAhead 31 = .ok (.goto 4, 3) := by decide +kernel
theorem dX8_isAhead_34 : decode cX8_isAhead 34 = .ok (.iconst 0, 1) := by decide +kernel
theorem dX8_isAhead_35 : decode cX8_isAhead 35 = .ok (.ireturn, 1) := by decide +kernel
theorem dX8_isAhead_36 : decode cX8_isAhead 36 = .ok (.aload_n 0, 1) := by decide +kernel
theorem dX8_isAhead_37 : decode cX8_isAhead 37 = .ok (.iload_n 1, 1) := by decide +kernel
theorem dX8_isAhead_38 : decode cX8_isAhead 38 = .ok (.invokevirtual 71, 3) := by decide +kernel
theorem dX8_isAhead_41 : decode cX8_isAhead 41 = .ok (.aload_n 0, 1) := by decide +kernel
theorem dX8_isAhead_42 : decode cX8_isAhead 42 = .ok (.getfield 15, 3) := by decide +kernel
theorem dX8_isAhead_45 : decode cX8_isAhead 45 = .ok (.getfield 74, 3) := by decide +kernel
theorem dX8_isAhead_48 : decode cX8_isAhead 48 = .ok (.iload_n 2, 1) := by decide +kernel
theorem dX8_isAhead_49 : decode cX8_isAhead 49 = .ok (.iaload, 1) := by decide +kernel
theorem dX8_isAhead_50 : decode cX8_isAhead 50 = .ok (.iconst 1, 1) := by decide +kernel
theorem dX8_isAhead_51 : decode cX8_isAhead 51 = .ok (.invokestatic 77, 3) := by decide +kernel
theorem dX8_isAhead_54 : decode cX8_isAhead 54 = .ok (.imul, 1) := by decide +kernel
theorem dX8_isAhead_55 : decode cX8_isAhead 55 = .ok (.aload_n 0, 1) := by decide +kernel
theorem dX8_isAhead_56 : decode cX8_isAhead 56 = .ok (.iload_n 2, 1) := by decide +kernel
theorem dX8_isAhead_57 : decode cX8_isAhead 57 = .ok (.invokevirtual 71, 3) := by decide +kernel
theorem dX8_isAhead_60 : decode cX8_isAhead 60 = .ok (.aload_n 0, 1) := by decide +kernel
theorem dX8_isAhead_61 : decode cX8_isAhead 61 = .ok (.getfield 15, 3) := by decide +kernel
theorem dX8_isAhead_64 : decode cX8_isAhead 64 = .ok (.getfield 74, 3) := by decide +kernel
theorem dX8_isAhead_67 : decode cX8_isAhead 67 = .ok (.iload_n 1, 1) := by decide +kernel
theorem dX8_isAhead_68 : decode cX8_isAhead 68 = .ok (.iaload, 1) := by decide +kernel
theorem dX8_isAhead_69 : decode cX8_isAhead 69 = .ok (.iconst 1, 1) := by decide +kernel
theorem dX8_isAhead_70 : decode cX8_isAhead 70 = .ok (.invokestatic 77, 3) := by decide +kernel
theorem dX8_isAhead_73 : decode cX8_isAhead 73 = .ok (.imul, 1) := by decide +kernel
theorem dX8_isAhead_74 : decode cX8_isAhead 74 = .ok (.isub, 1) := by decide +kernel
theorem dX8_isAhead_75 : decode cX8_isAhead 75 = .ok (.istore_n 3, 1) := by decide +kernel
theorem dX8_isAhead_76 : decode cX8_isAhead 76 = .ok (.iload_n 3, 1) := by decide +kernel
theorem dX8_isAhead_77 : decode cX8_isAhead 77 = .ok (.ifCond .eq 15, 3) := by decide +kernel
theorem dX8_isAhead_80 : decode cX8_isAhead 80 = .ok (.iload_n 3, 1) := by decide +kernel
theorem dX8_isAhead_81 : decode cX8_isAhead 81 = .ok (.ifCond .le 7, 3) := by decide +kernel
theorem dX8_isAhead_84 : decode cX8_isAhead 84 = .ok (.iconst 1, 1) := by decide +kernel
theorem dX8_isAhead_85 : decode cX8_isAhead 85 = .ok (.goto 17, 3) := by decide +kernel
theorem dX8_isAhead_88 : decode cX8_isAhead 88 = .ok (.iconst 0, 1) := by decide +kernel
theorem dX8_isAhead_89 : decode cX8_isAhead 89 = .ok (.goto 13, 3) := by decide +kernel
theorem dX8_isAhead_92 : decode cX8_isAhead 92 = .ok (.iload_n 1, 1) := by decide +kernel
theorem dX8_isAhead_93 : decode cX8_isAhead 93 = .ok (.iload_n 2, 1) := by decide +kernel
theorem dX8_isAhead_94 : decode cX8_isAhead 94 = .ok (.if_icmp .ge 7, 3) := by decide +kernel
theorem dX8_isAhead_97 : decode cX8_isAhead 97 = .ok (.iconst 1, 1) := by decide +kernel
theorem dX8_isAhead_98 : decode cX8_isAhead 98 = .ok (.goto 4, 3) := by decide +kernel
theorem dX8_isAhead_101 : decode cX8_isAhead 101 = .ok (.iconst 0, 1) := by decide +kernel
theorem dX8_isAhead_102 : decode cX8_isAhead 102 = .ok (.ireturn, 1) := by decide +kernel
theorem dX8_averagePoints_0 : decode cX8_averagePoints 0 = .ok (.aload_n 0, 1) := by decide +kernel
theorem dX8_averagePoints_1 : decode cX8_averagePoints 1 = .ok (.getfield 15, 3) := by decide +kernel
theorem dX8_averagePoints_4 : decode cX8_averagePoints 4 = .ok (.getfield 74, 3) := by decide +kernel
theorem dX8_averagePoints_7 : decode cX8_averagePoints 7 = .ok (.iload_n 1, 1) := by decide +kernel
theorem dX8_averagePoints_8 : decode cX8_averagePoints 8 = .ok (.iaload, 1) := by decide +kernel
theorem dX8_averagePoints_9 : decode cX8_averagePoints 9 = .ok (.ifCond .le 12, 3) := by decide +kernel
theorem dX8_averagePoints_12 : decode cX8_averagePoints 12 = .ok (.aload_n 0, 1) := by decide +kernel
theorem dX8_averagePoints_13 : decode cX8_averagePoints 13 = .ok (.getfield 26, 3) := by decide +kernel
theorem dX8_averagePoints_16 : decode cX8_averagePoints 16 = .ok (.iload_n 1, 1) := by decide +kernel
theorem dX8_averagePoints_17 : decode cX8_averagePoints 17 = .ok (.iaload, 1) := by decide +kernel
theorem dX8_averagePoints_18 : decode cX8_averagePoints 18 = .ok (.goto 4, 3) := by decide +kernel
theorem dX8_averagePoints_21 : decode cX8_averagePoints 21 = .ok (.iconst 0, 1) := by decide +kernel
theorem dX8_averagePoints_22 : decode cX8_averagePoints 22 = .ok (.ireturn, 1) := by decide +kernel
theorem dX8_placeOf_0 : decode cX8_placeOf 0 = .ok (.iconst 0, 1) := by decide +kernel
theorem dX8_placeOf_1 : decode cX8_placeOf 1 = .ok (.istore_n 2, 1) := by decide +kernel
theorem dX8_placeOf_2 : decode cX8_placeOf 2 = .ok (.iload_n 2, 1) := by decide +kernel
theorem dX8_placeOf_3 : decode cX8_placeOf 3 = .ok (.aload_n 0, 1) := by decide +kernel
theorem dX8_placeOf_4 : decode cX8_placeOf 4 = .ok (.getfield 38, 3) := by decide +kernel
theorem dX8_placeOf_7 : decode cX8_placeOf 7 = .ok (.if_icmp .ge 21, 3) := by decide +kernel
theorem dX8_placeOf_10 : decode cX8_placeOf 10 = .ok (.aload_n 0, 1) := by decide +kernel
theorem dX8_placeOf_11 : decode cX8_placeOf 11 = .ok (.getfield 19, 3) := by decide +kernel
theorem dX8_placeOf_14 : decode cX8_placeOf 14 = .ok (.iload_n 2, 1) := by decide +kernel
theorem dX8_placeOf_15 : decode cX8_placeOf 15 = .ok (.iaload, 1) := by decide +kernel
theorem dX8_placeOf_16 : decode cX8_placeOf 16 = .ok (.iload_n 1, 1) := by decide +kernel
theorem dX8_placeOf_17 : decode cX8_placeOf 17 = .ok (.if_icmp .ne 5, 3) := by decide +kernel
theorem dX8_placeOf_20 : decode cX8_placeOf 20 = .ok (.iload_n 2, 1) := by decide +kernel
theorem dX8_placeOf_21 : decode cX8_placeOf 21 = .ok (.ireturn, 1) := by decide +kernel
theorem dX8_placeOf_22 : decode cX8_placeOf 22 = .ok (.iinc 2 1, 3) := by decide +kernel
theorem dX8_placeOf_25 : decode cX8_placeOf 25 = .ok (.goto (-23), 3) := by decide +kernel
theorem dX8_placeOf_28 : decode cX8_placeOf 28 = .ok (.iconst (-1), 1) := by decide +kernel
theorem dX8_placeOf_29 : decode cX8_placeOf 29 = .ok (.ireturn, 1) := by decide +kernel
theorem dX8_atRank_0 : decode cX8_atRank 0 = .ok (.iconst 0, 1) := by decide +kernel
theorem dX8_atRank_1 : decode cX8_atRank 1 = .ok (.istore_n 3, 1) := by decide +kernel
theorem dX8_atRank_2 : decode cX8_atRank 2 = .ok (.iload_n 3, 1) := by decide +kernel
theorem dX8_atRank_3 : decode cX8_atRank 3 = .ok (.aload_n 0, 1) := by decide +kernel
theorem dX8_atRank_4 : decode cX8_atRank 4 = .ok (.getfield 38, 3) := by decide +kernel
theorem dX8_atRank_7 : decode cX8_atRank 7 = .ok (.if_icmp .ge 49, 3) := by decide +kernel
theorem dX8_atRank_10 : decode cX8_atRank 10 = .ok (.aload_n 0, 1) := by decide +kernel
theorem dX8_atRank_11 : decode cX8_atRank 11 = .ok (.getfield 9, 3) := by decide +kernel
theorem dX8_atRank_14 : decode cX8_atRank 14 = .ok (.getfield 55, 3) := by decide +kernel
theorem dX8_atRank_17 : decode cX8_atRank 17 = .ok (.aload_n 0, 1) := by decide +kernel
theorem dX8_atRank_18 : decode cX8_atRank 18 = .ok (.getfield 19, 3) := by decide +kernel
theorem dX8_atRank_21 : decode cX8_atRank 21 = .ok (.iload_n 3, 1) := by decide +kernel
theorem dX8_atRank_22 : decode cX8_atRank 22 = .ok (.iaload, 1) := by decide +kernel
theorem dX8_atRank_23 : decode cX8_atRank 23 = .ok (.iaload, 1) := by decide +kernel
theorem dX8_atRank_24 : decode cX8_atRank 24 = .ok (.iload_n 1, 1) := by decide +kernel
theorem dX8_atRank_25 : decode cX8_atRank 25 = .ok (.if_icmp .ne 25, 3) := by decide +kernel
theorem dX8_atRank_28 : decode cX8_atRank 28 = .ok (.aload_n 0, 1) := by decide +kernel
theorem dX8_atRank_29 : decode cX8_atRank 29 = .ok (.getfield 23, 3) := by decide +kernel
theorem dX8_atRank_32 : decode cX8_atRank 32 = .ok (.aload_n 0, 1) := by decide +kernel
theorem dX8_atRank_33 : decode cX8_atRank 33 = .ok (.getfield 19, 3) := by decide +kernel
theorem dX8_atRank_36 : decode cX8_atRank 36 = .ok (.iload_n 3, 1) := by decide +kernel
theorem dX8_atRank_37 : decode cX8_atRank 37 = .ok (.iaload, 1) := by decide +kernel
theorem dX8_atRank_38 : decode cX8_atRank 38 = .ok (.iaload, 1) := by decide +kernel
theorem dX8_atRank_39 : decode cX8_atRank 39 = .ok (.iload_n 2, 1) := by decide +kernel
theorem dX8_atRank_40 : decode cX8_atRank 40 = .ok (.if_icmp .ne 10, 3) := by decide +kernel
theorem dX8_atRank_43 : decode cX8_atRank 43 = .ok (.aload_n 0, 1) := by decide +kernel
theorem dX8_atRank_44 : decode cX8_atRank 44 = .ok (.getfield 19, 3) := by decide +kernel
theorem dX8_atRank_47 : decode cX8_atRank 47 = .ok (.iload_n 3, 1) := by decide +kernel
theorem dX8_atRank_48 : decode cX8_atRank 48 = .ok (.iaload, 1) := by decide +kernel
theorem dX8_atRank_49 : decode cX8_atRank 49 = .ok (.ireturn, 1) := by decide +kernel
theorem dX8_atRank_50 : decode cX8_atRank 50 = .ok (.iinc 3 1, 3) := by decide +kernel
theorem dX8_atRank_53 : decode cX8_atRank 53 = .ok (.goto (-51), 3) := by decide +kernel
theorem dX8_atRank_56 : decode cX8_atRank 56 = .ok (.iconst (-1), 1) := by decide +kernel
theorem dX8_atRank_57 : decode cX8_atRank 57 = .ok (.ireturn, 1) := by decide +kernel
theorem dX8_canReach_0 : decode cX8_canReach 0 = .ok (.iconst 2, 1) := by decide +kernel
theorem dX8_canReach_1 : decode cX8_canReach 1 = .ok (.aload_n 0, 1) := by decide +kernel
theorem dX8_canReach_2 : decode cX8_canReach 2 = .ok (.getfield 9, 3) := by decide +kernel
theorem dX8_canReach_5 : decode cX8_canReach 5 = .ok (.getfield 83, 3) := by decide +kernel
theorem dX8_canReach_8 : decode cX8_canReach 8 = .ok (.aload_n 0, 1) := by decide +kernel
theorem dX8_canReach_9 : decode cX8_canReach 9 = .ok (.getfield 9, 3) := by decide +kernel
theorem dX8_canReach_12 : decode cX8_canReach 12 = .ok (.getfield 86, 3) := by decide +kernel
theorem dX8_canReach_15 : decode cX8_canReach 15 = .ok (.iload_n 1, 1) := by decide +kernel
theorem dX8_canReach_16 : decode cX8_canReach 16 = .ok (.iaload, 1) := by decide +kernel
theorem dX8_canReach_17 : decode cX8_canReach 17 = .ok (.iaload, 1) := by decide +kernel
theorem dX8_canReach_18 : decode cX8_canReach 18 = .ok (.iconst 1, 1) := by decide +kernel
theorem dX8_canReach_19 : decode cX8_canReach 19 = .ok (.isub, 1) := by decide +kernel
theorem dX8_canReach_20 : decode cX8_canReach 20 = .ok (.imul, 1) := by decide +kernel
theorem dX8_canReach_21 : decode cX8_canReach 21 = .ok (.istore_n 2, 1) := by decide +kernel
theorem dX8_canReach_22 : decode cX8_canReach 22 = .ok (.iconst 0, 1) := by decide +kernel
theorem dX8_canReach_23 : decode cX8_canReach 23 = .ok (.istore_n 3, 1) := by decide +kernel
theorem dX8_canReach_24 : decode cX8_canReach 24 = .ok (.iconst 0, 1) := by decide +kernel
theorem dX8_canReach_25 : decode cX8_canReach 25 = .ok (.istore 4, 2) := by decide +kernel
theorem dX8_canReach_27 : decode cX8_canReach 27 = .ok (.iload 4, 2) := by decide +kernel
theorem dX8_canReach_29 : decode cX8_canReach 29 = .ok (.aload_n 0, 1) := by decide +kernel
theorem dX8_canReach_30 : decode cX8_canReach 30 = .ok (.getfield 9, 3) := by decide +kernel
theorem dX8_canReach_33 : decode cX8_canReach 33 = .ok (.getfield 89, 3) := by decide +kernel
theorem dX8_canReach_36 : decode cX8_canReach 36 = .ok (.if_icmp .ge 70, 3) := by decide +kernel
theorem dX8_canReach_39 : decode cX8_canReach 39 = .ok (.iload 4, 2) := by decide +kernel
theorem dX8_canReach_41 : decode cX8_canReach 41 = .ok (.iload_n 1, 1) := by decide +kernel
theorem dX8_canReach_42 : decode cX8_canReach 42 = .ok (.if_icmp .eq 58, 3) := by decide +kernel
theorem dX8_canReach_45 : decode cX8_canReach 45 = .ok (.aload_n 0, 1) := by decide +kernel
theorem dX8_canReach_46 : decode cX8_canReach 46 = .ok (.getfield 9, 3) := by decide +kernel
theorem dX8_canReach_49 : decode cX8_canReach 49 = .ok (.iload_n 1, 1) := by decide +kernel
theorem dX8_canReach_50 : decode cX8_canReach 50 = .ok (.iload 4, 2) := by decide +kernel
theorem dX8_canReach_52 : decode cX8_canReach 52 = .ok (.invokevirtual 92, 3) := by decide +kernel
theorem dX8_canReach_55 : decode cX8_canReach 55 = .ok (.ifCond .eq 45, 3) := by decide +kernel
theorem dX8_canReach_58 : decode cX8_canReach 58 = .ok (.aload_n 0, 1) := by decide +kernel
theorem dX8_canReach_59 : decode cX8_canReach 59 = .ok (.getfield 15, 3) := by decide +kernel
theorem dX8_canReach_62 : decode cX8_canReach 62 = .ok (.iload 4, 2) := by decide +kernel
theorem dX8_canReach_64 : decode cX8_canReach 64 = .ok (.invokevirtual 42, 3) := by decide +kernel
theorem dX8_canReach_67 : decode cX8_canReach 67 = .ok (.iconst 3, 1) := by decide +kernel
theorem dX8_canReach_68 : decode cX8_canReach 68 = .ok (.iload_n 2, 1) := by decide +kernel
theorem dX8_canReach_69 : decode cX8_canReach 69 = .ok (.aload_n 0, 1) := by decide +kernel
theorem dX8_canReach_70 : decode cX8_canReach 70 = .ok (.getfield 15, 3) := by decide +kernel
theorem dX8_canReach_73 : decode cX8_canReach 73 = .ok (.getfield 74, 3) := by decide +kernel
theorem dX8_canReach_76 : decode cX8_canReach 76 = .ok (.iload 4, 2) := by decide +kernel
theorem dX8_canReach_78 : decode cX8_canReach 78 = .ok (.iaload, 1) := by decide +kernel
theorem dX8_canReach_79 : decode cX8_canReach 79 = .ok (.isub, 1) := by decide +kernel
theorem dX8_canReach_80 : decode cX8_canReach 80 = .ok (.imul, 1) := by decide +kernel
theorem dX8_canReach_81 : decode cX8_canReach 81 = .ok (.iadd, 1) := by decide +kernel
theorem dX8_canReach_82 : decode cX8_canReach 82 = .ok (.istore 5, 2) := by decide +kernel
theorem dX8_canReach_84 : decode cX8_canReach 84 = .ok (.iload 5, 2) := by decide +kernel
theorem dX8_canReach_86 : decode cX8_canReach 86 = .ok (.aload_n 0, 1) := by decide +kernel
theorem dX8_canReach_87 : decode cX8_canReach 87 = .ok (.getfield 15, 3) := by decide +kernel
theorem dX8_canReach_90 : decode cX8_canReach 90 = .ok (.iload_n 1, 1) := by decide +kernel
theorem dX8_canReach_91 : decode cX8_canReach 91 = .ok (.invokevirtual 42, 3) := by decide +kernel
theorem dX8_canReach_94 : decode cX8_canReach 94 = .ok (.if_icmp .lt 6, 3) := by decide +kernel
theorem dX8_canReach_97 : decode cX8_canReach 97 = .ok (.iinc 3 1, 3) := by decide +kernel
theorem dX8_canReach_100 : decode cX8_canReach 100 = .ok (.iinc 4 1, 3) := by decide +kernel
theorem dX8_canReach_103 : decode cX8_canReach 103 = .ok (.goto (-76), 3) := by decide +kernel
theorem dX8_canReach_106 : decode cX8_canReach 106 = .ok (.iload_n 3, 1) := by decide +kernel
theorem dX8_canReach_107 : decode cX8_canReach 107 = .ok (.ireturn, 1) := by decide +kernel
theorem dX8_write_0 : decode cX8_write 0 = .ok (.aload_n 0, 1) := by decide +kernel
theorem dX8_write_1 : decode cX8_write 1 = .ok (.iconst 0, 1) := by decide +kernel
theorem dX8_write_2 : decode cX8_write 2 = .ok (.putfield 95, 3) := by decide +kernel
theorem dX8_write_5 : decode cX8_write 5 = .ok (.iconst 0, 1) := by decide +kernel
theorem dX8_write_6 : decode cX8_write 6 = .ok (.istore_n 2, 1) := by decide +kernel
theorem dX8_write_7 : decode cX8_write 7 = .ok (.iload_n 2, 1) := by decide +kernel
theorem dX8_write_8 : decode cX8_write 8 = .ok (.aload_n 0, 1) := by decide +kernel
theorem dX8_write_9 : decode cX8_write 9 = .ok (.getfield 38, 3) := by decide +kernel
theorem dX8_write_12 : decode cX8_write 12 = .ok (.if_icmp .ge 37, 3) := by decide +kernel
theorem dX8_write_15 : decode cX8_write 15 = .ok (.aload_n 0, 1) := by decide +kernel
theorem dX8_write_16 : decode cX8_write 16 = .ok (.getfield 9, 3) := by decide +kernel
theorem dX8_write_19 : decode cX8_write 19 = .ok (.getfield 55, 3) := by decide +kernel
theorem dX8_write_22 : decode cX8_write 22 = .ok (.aload_n 0, 1) := by decide +kernel
theorem dX8_write_23 : decode cX8_write 23 = .ok (.getfield 19, 3) := by decide +kernel
theorem dX8_write_26 : decode cX8_write 26 = .ok (.iload_n 2, 1) := by decide +kernel
theorem dX8_write_27 : decode cX8_write 27 = .ok (.iaload, 1) := by decide +kernel
theorem dX8_write_28 : decode cX8_write 28 = .ok (.iaload, 1) := by decide +kernel
theorem dX8_write_29 : decode cX8_write 29 = .ok (.iload_n 1, 1) := by decide +kernel
theorem dX8_write_30 : decode cX8_write 30 = .ok (.if_icmp .ne 13, 3) := by decide +kernel
theorem dX8_write_33 : decode cX8_write 33 = .ok (.aload_n 0, 1) := by decide +kernel
theorem dX8_write_34 : decode cX8_write 34 = .ok (.aload_n 0, 1) := by decide +kernel
theorem dX8_write_35 : decode cX8_write 35 = .ok (.getfield 19, 3) := by decide +kernel
theorem dX8_write_38 : decode cX8_write 38 = .ok (.iload_n 2, 1) := by decide +kernel
theorem dX8_write_39 : decode cX8_write 39 = .ok (.iaload, 1) := by decide +kernel
theorem dX8_write_40 : decode cX8_write 40 = .ok (.invokevirtual 98, 3) := by decide +kernel
theorem dX8_write_43 : decode cX8_write 43 = .ok (.iinc 2 1, 3) := by decide +kernel
theorem dX8_write_46 : decode cX8_write 46 = .ok (.goto (-39), 3) := by decide +kernel
theorem dX8_write_49 : decode cX8_write 49 = .ok (.return_, 1) := by decide +kernel
theorem dX8_writeClub_0 : decode cX8_writeClub 0 = .ok (.bipush 48, 2) := by decide +kernel
theorem dX8_writeClub_2 : decode cX8_writeClub 2 = .ok (.istore_n 2, 1) := by decide +kernel
theorem dX8_writeClub_3 : decode cX8_writeClub 3 = .ok (.iload_n 2, 1) := by decide +kernel
theorem dX8_writeClub_4 : decode cX8_writeClub 4 = .ok (.ifCond .lt 35, 3) := by decide +kernel
theorem dX8_writeClub_7 : decode cX8_writeClub 7 = .ok (.aload_n 0, 1) := by decide +kernel
theorem dX8_writeClub_8 : decode cX8_writeClub 8 = .ok (.getfield 9, 3) := by decide +kernel
theorem dX8_writeClub_11 : decode cX8_writeClub 11 = .ok (.getfield 101, 3) := by decide +kernel
theorem dX8_writeClub_14 : decode cX8_writeClub 14 = .ok (.iload_n 1, 1) := by decide +kernel
theorem dX8_writeClub_15 : decode cX8_writeClub 15 = .ok (.laload, 1) := by decide +kernel
theorem dX8_writeClub_16 : decode cX8_writeClub 16 = .ok (.iload_n 2, 1) := by decide +kernel
theorem dX8_writeClub_17 : decode cX8_writeClub 17 = .ok (.lushr, 1) := by decide +kernel
theorem dX8_writeClub_18 : decode cX8_writeClub 18 = .ok (.ldc2_w 105, 3) := by decide +kernel
theorem dX8_writeClub_21 : decode cX8_writeClub 21 = .ok (.land, 1) := by decide +kernel
theorem dX8_writeClub_22 : decode cX8_writeClub 22 = .ok (.l2i, 1) := by decide +kernel
theorem dX8_writeClub_23 : decode cX8_writeClub 23 = .ok (.istore_n 3, 1) := by decide +kernel
theorem dX8_writeClub_24 : decode cX8_writeClub 24 = .ok (.iload_n 3, 1) := by decide +kernel
theorem dX8_writeClub_25 : decode cX8_writeClub 25 = .ok (.ifCond .eq 8, 3) := by decide +kernel
theorem dX8_writeClub_28 : decode cX8_writeClub 28 = .ok (.aload_n 0, 1) := by decide +kernel
theorem dX8_writeClub_29 : decode cX8_writeClub 29 = .ok (.iload_n 3, 1) := by decide +kernel
theorem dX8_writeClub_30 : decode cX8_writeClub 30 = .ok (.invokevirtual 107, 3) := by decide +kernel
theorem dX8_writeClub_33 : decode cX8_writeClub 33 = .ok (.iinc 2 (-8), 3) := by decide +kernel
theorem dX8_writeClub_36 : decode cX8_writeClub 36 = .ok (.goto (-33), 3) := by decide +kernel
theorem dX8_writeClub_39 : decode cX8_writeClub 39 = .ok (.aload_n 0, 1) := by decide +kernel
theorem dX8_writeClub_40 : decode cX8_writeClub 40 = .ok (.bipush 32, 2) := by decide +kernel
theorem dX8_writeClub_42 : decode cX8_writeClub 42 = .ok (.invokevirtual 107, 3) := by decide +kernel
theorem dX8_writeClub_45 : decode cX8_writeClub 45 = .ok (.aload_n 0, 1) := by decide +kernel
theorem dX8_writeClub_46 : decode cX8_writeClub 46 = .ok (.aload_n 0, 1) := by decide +kernel
theorem dX8_writeClub_47 : decode cX8_writeClub 47 = .ok (.getfield 26, 3) := by decide +kernel
theorem dX8_writeClub_50 : decode cX8_writeClub 50 = .ok (.iload_n 1, 1) := by decide +kernel
theorem dX8_writeClub_51 : decode cX8_writeClub 51 = .ok (.iaload, 1) := by decide +kernel
theorem dX8_writeClub_52 : decode cX8_writeClub 52 = .ok (.invokevirtual 110, 3) := by decide +kernel
theorem dX8_writeClub_55 : decode cX8_writeClub 55 = .ok (.aload_n 0, 1) := by decide +kernel
theorem dX8_writeClub_56 : decode cX8_writeClub 56 = .ok (.bipush 32, 2) := by decide +kernel
theorem dX8_writeClub_58 : decode cX8_writeClub 58 = .ok (.invokevirtual 107, 3) := by decide +kernel
theorem dX8_writeClub_61 : decode cX8_writeClub 61 = .ok (.aload_n 0, 1) := by decide +kernel
theorem dX8_writeClub_62 : decode cX8_writeClub 62 = .ok (.aload_n 0, 1) := by decide +kernel
theorem dX8_writeClub_63 : decode cX8_writeClub 63 = .ok (.getfield 15, 3) := by decide +kernel
theorem dX8_writeClub_66 : decode cX8_writeClub 66 = .ok (.getfield 74, 3) := by decide +kernel
theorem dX8_writeClub_69 : decode cX8_writeClub 69 = .ok (.iload_n 1, 1) := by decide +kernel
theorem dX8_writeClub_70 : decode cX8_writeClub 70 = .ok (.iaload, 1) := by decide +kernel
theorem dX8_writeClub_71 : decode cX8_writeClub 71 = .ok (.invokevirtual 110, 3) := by decide +kernel
theorem dX8_writeClub_74 : decode cX8_writeClub 74 = .ok (.aload_n 0, 1) := by decide +kernel
theorem dX8_writeClub_75 : decode cX8_writeClub 75 = .ok (.bipush 59, 2) := by decide +kernel
theorem dX8_writeClub_77 : decode cX8_writeClub 77 = .ok (.invokevirtual 107, 3) := by decide +kernel
theorem dX8_writeClub_80 : decode cX8_writeClub 80 = .ok (.return_, 1) := by decide +kernel
theorem dX8_writeNumber_0 : decode cX8_writeNumber 0 = .ok (.iload_n 1, 1) := by decide +kernel
theorem dX8_writeNumber_1 : decode cX8_writeNumber 1 = .ok (.ifCond .ge 9, 3) := by decide +kernel
theorem dX8_writeNumber_4 : decode cX8_writeNumber 4 = .ok (.aload_n 0, 1) := by decide +kernel
theorem dX8_writeNumber_5 : decode cX8_writeNumber 5 = .ok (.bipush 45, 2) := by decide +kernel
theorem dX8_writeNumber_7 : decode cX8_writeNumber 7 = .ok (.invokevirtual 107, 3) := by decide +kernel
theorem dX8_writeNumber_10 : decode cX8_writeNumber 10 = .ok (.iload_n 1, 1) := by decide +kernel
theorem dX8_writeNumber_11 : decode cX8_writeNumber 11 = .ok (.invokestatic 113, 3) := by decide +kernel
theorem dX8_writeNumber_14 : decode cX8_writeNumber 14 = .ok (.istore_n 2, 1) := by decide +kernel
theorem dX8_writeNumber_15 : decode cX8_writeNumber 15 = .ok (.iload_n 2, 1) := by decide +kernel
theorem dX8_writeNumber_16 : decode cX8_writeNumber 16 = .ok (.bipush 100, 2) := by decide +kernel
theorem dX8_writeNumber_18 : decode cX8_writeNumber 18 = .ok (.if_icmp .lt 14, 3) := by decide +kernel
theorem dX8_writeNumber_21 : decode cX8_writeNumber 21 = .ok (.aload_n 0, 1) := by decide +kernel
theorem dX8_writeNumber_22 : decode cX8_writeNumber 22 = .ok (.bipush 48, 2) := by decide +kernel
theorem dX8_writeNumber_24 : decode cX8_writeNumber 24 = .ok (.iload_n 2, 1) := by decide +kernel
theorem dX8_writeNumber_25 : decode cX8_writeNumber 25 = .ok (.bipush 100, 2) := by decide +kernel
theorem dX8_writeNumber_27 : decode cX8_writeNumber 27 = .ok (.idiv, 1) := by decide +kernel
theorem dX8_writeNumber_28 : decode cX8_writeNumber 28 = .ok (.iadd, 1) := by decide +kernel
theorem dX8_writeNumber_29 : decode cX8_writeNumber 29 = .ok (.invokevirtual 107, 3) := by decide +kernel
theorem dX8_writeNumber_32 : decode cX8_writeNumber 32 = .ok (.iload_n 2, 1) := by decide +kernel
theorem dX8_writeNumber_33 : decode cX8_writeNumber 33 = .ok (.bipush 10, 2) := by decide +kernel
theorem dX8_writeNumber_35 : decode cX8_writeNumber 35 = .ok (.if_icmp .lt 17, 3) := by decide +kernel
theorem dX8_writeNumber_38 : decode cX8_writeNumber 38 = .ok (.aload_n 0, 1) := by decide +kernel
theorem dX8_writeNumber_39 : decode cX8_writeNumber 39 = .ok (.bipush 48, 2) := by decide +kernel
theorem dX8_writeNumber_41 : decode cX8_writeNumber 41 = .ok (.iload_n 2, 1) := by decide +kernel
theorem dX8_writeNumber_42 : decode cX8_writeNumber 42 = .ok (.bipush 10, 2) := by decide +kernel
theorem dX8_writeNumber_44 : decode cX8_writeNumber 44 = .ok (.idiv, 1) := by decide +kernel
theorem dX8_writeNumber_45 : decode cX8_writeNumber 45 = .ok (.bipush 10, 2) := by decide +kernel
theorem dX8_writeNumber_47 : decode cX8_writeNumber 47 = .ok (.irem, 1) := by decide +kernel
theorem dX8_writeNumber_48 : decode cX8_writeNumber 48 = .ok (.iadd, 1) := by decide +kernel
theorem dX8_writeNumber_49 : decode cX8_writeNumber 49 = .ok (.invokevirtual 107, 3) := by decide +kernel
theorem dX8_writeNumber_52 : decode cX8_writeNumber 52 = .ok (.aload_n 0, 1) := by decide +kernel
theorem dX8_writeNumber_53 : decode cX8_writeNumber 53 = .ok (.bipush 48, 2) := by decide +kernel
theorem dX8_writeNumber_55 : decode cX8_writeNumber 55 = .ok (.iload_n 2, 1) := by decide +kernel
theorem dX8_writeNumber_56 : decode cX8_writeNumber 56 = .ok (.bipush 10, 2) := by decide +kernel
theorem dX8_writeNumber_58 : decode cX8_writeNumber 58 = .ok (.irem, 1) := by decide +kernel
theorem dX8_writeNumber_59 : decode cX8_writeNumber 59 = .ok (.iadd, 1) := by decide +kernel
theorem dX8_writeNumber_60 : decode cX8_writeNumber 60 = .ok (.invokevirtual 107, 3) := by decide +kernel
theorem dX8_writeNumber_63 : decode cX8_writeNumber 63 = .ok (.return_, 1) := by decide +kernel
theorem dX8_writeSign_0 : decode cX8_writeSign 0 = .ok (.aload_n 0, 1) := by decide +kernel
theorem dX8_writeSign_1 : decode cX8_writeSign 1 = .ok (.getfield 95, 3) := by decide +kernel
theorem dX8_writeSign_4 : decode cX8_writeSign 4 = .ok (.bipush 96, 2) := by decide +kernel
theorem dX8_writeSign_6 : decode cX8_writeSign 6 = .ok (.if_icmp .ge 23, 3) := by decide +kernel
theorem dX8_writeSign_9 : decode cX8_writeSign 9 = .ok (.aload_n 0, 1) := by decide +kernel
theorem dX8_writeSign_10 : decode cX8_writeSign 10 = .ok (.getfield 29, 3) := by decide +kernel
theorem dX8_writeSign_13 : decode cX8_writeSign 13 = .ok (.aload_n 0, 1) := by decide +kernel
theorem dX8_writeSign_14 : decode cX8_writeSign 14 = .ok (.getfield 95, 3) := by decide +kernel
theorem dX8_writeSign_17 : decode cX8_writeSign 17 = .ok (.iload_n 1, 1) := by decide +kernel
theorem dX8_writeSign_18 : decode cX8_writeSign 18 = .ok (.iastore, 1) := by decide +kernel
theorem dX8_writeSign_19 : decode cX8_writeSign 19 = .ok (.aload_n 0, 1) := by decide +kernel
theorem dX8_writeSign_20 : decode cX8_writeSign 20 = .ok (.dup, 1) := by decide +kernel
theorem dX8_writeSign_21 : decode cX8_writeSign 21 = .ok (.getfield 95, 3) := by decide +kernel
theorem dX8_writeSign_24 : decode cX8_writeSign 24 = .ok (.iconst 1, 1) := by decide +kernel
theorem dX8_writeSign_25 : decode cX8_writeSign 25 = .ok (.iadd, 1) := by decide +kernel
theorem dX8_writeSign_26 : decode cX8_writeSign 26 = .ok (.putfield 95, 3) := by decide +kernel
theorem dX8_writeSign_29 : decode cX8_writeSign 29 = .ok (.return_, 1) := by decide +kernel
theorem dX9_init_0 : decode cX9_init 0 = .ok (.aload_n 0, 1) := by decide +kernel
theorem dX9_init_1 : decode cX9_init 1 = .ok (.invokespecial 3, 3) := by decide +kernel
theorem dX9_init_4 : decode cX9_init 4 = .ok (.aload_n 0, 1) := by decide +kernel
theorem dX9_init_5 : decode cX9_init 5 = .ok (.sipush 700, 3) := by decide +kernel
theorem dX9_init_8 : decode cX9_init 8 = .ok (.newarray .int, 2) := by decide +kernel
theorem dX9_init_10 : decode cX9_init 10 = .ok (.putfield 11, 3) := by decide +kernel
theorem dX9_init_13 : decode cX9_init 13 = .ok (.aload_n 0, 1) := by decide +kernel
theorem dX9_init_14 : decode cX9_init 14 = .ok (.iconst (-1), 1) := by decide +kernel
theorem dX9_init_15 : decode cX9_init 15 = .ok (.putfield 15, 3) := by decide +kernel
theorem dX9_init_18 : decode cX9_init 18 = .ok (.return_, 1) := by decide +kernel
theorem dX9_put_0 : decode cX9_put 0 = .ok (.bipush 24, 2) := by decide +kernel
theorem dX9_put_2 : decode cX9_put 2 = .ok (.istore_n 2, 1) := by decide +kernel
theorem dX9_put_3 : decode cX9_put 3 = .ok (.iload_n 2, 1) := by decide +kernel
theorem dX9_put_4 : decode cX9_put 4 = .ok (.ifCond .lt 45, 3) := by decide +kernel
theorem dX9_put_7 : decode cX9_put 7 = .ok (.aload_n 0, 1) := by decide +kernel
theorem dX9_put_8 : decode cX9_put 8 = .ok (.getfield 19, 3) := by decide +kernel
theorem dX9_put_11 : decode cX9_put 11 = .ok (.sipush 700, 3) := by decide +kernel
theorem dX9_put_14 : decode cX9_put 14 = .ok (.if_icmp .ge 29, 3) := by decide +kernel
theorem dX9_put_17 : decode cX9_put 17 = .ok (.aload_n 0, 1) := by decide +kernel
theorem dX9_put_18 : decode cX9_put 18 = .ok (.getfield 11, 3) := by decide +kernel
theorem dX9_put_21 : decode cX9_put 21 = .ok (.aload_n 0, 1) := by decide +kernel
theorem dX9_put_22 : decode cX9_put 22 = .ok (.getfield 19, 3) := by decide +kernel
theorem dX9_put_25 : decode cX9_put 25 = .ok (.iload_n 1, 1) := by decide +kernel
theorem dX9_put_26 : decode cX9_put 26 = .ok (.iload_n 2, 1) := by decide +kernel
theorem dX9_put_27 : decode cX9_put 27 = .ok (.iushr, 1) := by decide +kernel
theorem dX9_put_28 : decode cX9_put 28 = .ok (.sipush 255, 3) := by decide +kernel
theorem dX9_put_31 : decode cX9_put 31 = .ok (.iand, 1) := by decide +kernel
theorem dX9_put_32 : decode cX9_put 32 = .ok (.iastore, 1) := by decide +kernel
theorem dX9_put_33 : decode cX9_put 33 = .ok (.aload_n 0, 1) := by decide +kernel
theorem dX9_put_34 : decode cX9_put 34 = .ok (.dup, 1) := by decide +kernel
theorem dX9_put_35 : decode cX9_put 35 = .ok (.getfield 19, 3) := by decide +kernel
theorem dX9_put_38 : decode cX9_put 38 = .ok (.iconst 1, 1) := by decide +kernel
theorem dX9_put_39 : decode cX9_put 39 = .ok (.iadd, 1) := by decide +kernel
theorem dX9_put_40 : decode cX9_put 40 = .ok (.putfield 19, 3) := by decide +kernel
theorem dX9_put_43 : decode cX9_put 43 = .ok (.iinc 2 (-8), 3) := by decide +kernel
theorem dX9_put_46 : decode cX9_put 46 = .ok (.goto (-43), 3) := by decide +kernel
theorem dX9_put_49 : decode cX9_put 49 = .ok (.return_, 1) := by decide +kernel
theorem dX9_rewind_0 : decode cX9_rewind 0 = .ok (.aload_n 0, 1) := by decide +kernel
theorem dX9_rewind_1 : decode cX9_rewind 1 = .ok (.iconst 0, 1) := by decide +kernel
theorem dX9_rewind_2 : decode cX9_rewind 2 = .ok (.putfield 22, 3) := by decide +kernel
theorem dX9_rewind_5 : decode cX9_rewind 5 = .ok (.return_, 1) := by decide +kernel
theorem dX9_startText_0 : decode cX9_startText 0 = .ok (.aload_n 0, 1) := by decide +kernel
theorem dX9_startText_1 : decode cX9_startText 1 = .ok (.iconst 0, 1) := by decide +kernel
theorem dX9_startText_2 : decode cX9_startText 2 = .ok (.putfield 22, 3) := by decide +kernel
theorem dX9_startText_5 : decode cX9_startText 5 = .ok (.aload_n 0, 1) := by decide +kernel
theorem dX9_startText_6 : decode cX9_startText 6 = .ok (.iconst 0, 1) := by decide +kernel
theorem dX9_startText_7 : decode cX9_startText 7 = .ok (.putfield 25, 3) := by decide +kernel
theorem dX9_startText_10 : decode cX9_startText 10 = .ok (.aload_n 0, 1) := by decide +kernel
theorem dX9_startText_11 : decode cX9_startText 11 = .ok (.iconst (-1), 1) := by decide +kernel
theorem dX9_startText_12 : decode cX9_startText 12 = .ok (.putfield 15, 3) := by decide +kernel
theorem dX9_startText_15 : decode cX9_startText 15 = .ok (.return_, 1) := by decide +kernel
theorem dX9_fail_0 : decode cX9_fail 0 = .ok (.aload_n 0, 1) := by decide +kernel
theorem dX9_fail_1 : decode cX9_fail 1 = .ok (.iload_n 1, 1) := by decide +kernel
theorem dX9_fail_2 : decode cX9_fail 2 = .ok (.putfield 25, 3) := by decide +kernel
theorem dX9_fail_5 : decode cX9_fail 5 = .ok (.aload_n 0, 1) := by decide +kernel
theorem dX9_fail_6 : decode cX9_fail 6 = .ok (.aload_n 0, 1) := by decide +kernel
theorem dX9_fail_7 : decode cX9_fail 7 = .ok (.getfield 28, 3) := by decide +kernel
theorem dX9_fail_10 : decode cX9_fail 10 = .ok (.putfield 15, 3) := by decide +kernel
theorem dX9_fail_13 : decode cX9_fail 13 = .ok (.iconst 0, 1) := by decide +kernel
theorem dX9_fail_14 : decode cX9_fail 14 = .ok (.ireturn, 1) := by decide +kernel
theorem dX9_next_0 : decode cX9_next 0 = .ok (.aload_n 0, 1) := by decide +kernel
theorem dX9_next_1 : decode cX9_next 1 = .ok (.getfield 22, 3) := by decide +kernel
theorem dX9_next_4 : decode cX9_next 4 = .ok (.aload_n 0, 1) := by decide +kernel
theorem dX9_next_5 : decode cX9_next 5 = .ok (.getfield 19, 3) := by decide +kernel
theorem dX9_next_8 : decode cX9_next 8 = .ok (.if_icmp .ge 44, 3) := by decide +kernel
theorem dX9_next_11 : decode cX9_next 11 = .ok (.aload_n 0, 1) := by decide +kernel
theorem dX9_next_12 : decode cX9_next 12 = .ok (.getfield 11, 3) := by decide +kernel
theorem dX9_next_15 : decode cX9_next 15 = .ok (.aload_n 0, 1) := by decide +kernel
theorem dX9_next_16 : decode cX9_next 16 = .ok (.getfield 22, 3) := by decide +kernel
theorem dX9_next_19 : decode cX9_next 19 = .ok (.iaload, 1) := by decide +kernel
theorem dX9_next_20 : decode cX9_next 20 = .ok (.bipush 32, 2) := by decide +kernel
theorem dX9_next_22 : decode cX9_next 22 = .ok (.if_icmp .eq 17, 3) := by decide +kernel
theorem dX9_next_25 : decode cX9_next 25 = .ok (.aload_n 0, 1) := by decide +kernel
theorem dX9_next_26 : decode cX9_next 26 = .ok (.getfield 11, 3) := by decide +kernel
theorem dX9_next_29 : decode cX9_next 29 = .ok (.aload_n 0, 1) := by decide +kernel
theorem dX9_next_30 : decode cX9_next 30 = .ok (.getfield 22, 3) := by decide +kernel
theorem dX9_next_33 : decode cX9_next 33 = .ok (.iaload, 1) := by decide +kernel
theorem dX9_next_34 : decode cX9_next 34 = .ok (.bipush 10, 2) := by decide +kernel
theorem dX9_next_36 : decode cX9_next 36 = .ok (.if_icmp .ne 16, 3) := by decide +kernel
theorem dX9_next_39 : decode cX9_next 39 = .ok (.aload_n 0, 1) := by decide +kernel
theorem dX9_next_40 : decode cX9_next 40 = .ok (.dup, 1) := by decide +kernel
theorem dX9_next_41 : decode cX9_next 41 = .ok (.getfield 22, 3) := by decide +kernel
theorem dX9_next_44 : decode cX9_next 44 = .ok (.iconst 1, 1) := by decide +kernel
theorem dX9_next_45 : decode cX9_next 45 = .ok (.iadd, 1) := by decide +kernel
theorem dX9_next_46 : decode cX9_next 46 = .ok (.putfield 22, 3) := by decide +kernel
theorem dX9_next_49 : decode cX9_next 49 = .ok (.goto (-49), 3) := by decide +kernel
theorem dX9_next_52 : decode cX9_next 52 = .ok (.aload_n 0, 1) := by decide +kernel
theorem dX9_next_53 : decode cX9_next 53 = .ok (.aload_n 0, 1) := by decide +kernel
theorem dX9_next_54 : decode cX9_next 54 = .ok (.getfield 22, 3) := by decide +kernel
theorem dX9_next_57 : decode cX9_next 57 = .ok (.putfield 28, 3) := by decide +kernel
theorem dX9_next_60 : decode cX9_next 60 = .ok (.aload_n 0, 1) := by decide +kernel
theorem dX9_next_61 : decode cX9_next 61 = .ok (.getfield 22, 3) := by decide +kernel
theorem dX9_next_64 : decode cX9_next 64 = .ok (.aload_n 0, 1) := by decide +kernel
theorem dX9_next_65 : decode cX9_next 65 = .ok (.getfield 19, 3) := by decide +kernel
theorem dX9_next_68 : decode cX9_next 68 = .ok (.if_icmp .lt 9, 3) := by decide +kernel
theorem dX9_next_71 : decode cX9_next 71 = .ok (.aload_n 0, 1) := by decide +kernel
theorem dX9_next_72 : decode cX9_next 72 = .ok (.iconst 0, 1) := by decide +kernel
theorem dX9_next_73 : decode cX9_next 73 = .ok (.putfield 31, 3) := by decide +kernel
theorem dX9_next_76 : decode cX9_next 76 = .ok (.return_, 1) := by decide +kernel
theorem dX9_next_77 : decode cX9_next 77 = .ok (.aload_n 0, 1) := by decide +kernel
theorem dX9_next_78 : decode cX9_next 78 = .ok (.aload_n 0, 1) := by decide +kernel
theorem dX9_next_79 : decode cX9_next 79 = .ok (.getfield 11, 3) := by decide +kernel
theorem dX9_next_82 : decode cX9_next 82 = .ok (.aload_n 0, 1) := by decide +kernel
theorem dX9_next_83 : decode cX9_next 83 = .ok (.getfield 22, 3) := by decide +kernel
theorem dX9_next_86 : decode cX9_next 86 = .ok (.iaload, 1) := by decide +kernel
theorem dX9_next_87 : decode cX9_next 87 = .ok (.putfield 34, 3) := by decide +kernel
theorem dX9_next_90 : decode cX9_next 90 = .ok (.aload_n 0, 1) := by decide +kernel
theorem dX9_next_91 : decode cX9_next 91 = .ok (.getfield 34, 3) := by decide +kernel
theorem dX9_next_94 : decode cX9_next 94 = .ok (.bipush 97, 2) := by decide +kernel
theorem dX9_next_96 : decode cX9_next 96 = .ok (.if_icmp .lt 19, 3) := by decide +kernel
theorem dX9_next_99 : decode cX9_next 99 = .ok (.aload_n 0, 1) := by decide +kernel
theorem dX9_next_100 : decode cX9_next 100 = .ok (.getfield 34, 3) := by decide +kernel
theorem dX9_next_103 : decode cX9_next 103 = .ok (.bipush 122, 2) := by decide +kernel
theorem dX9_next_105 : decode cX9_next 105 = .ok (.if_icmp .gt 10, 3) := by decide +kernel
theorem dX9_next_108 : decode cX9_next 108 = .ok (.aload_n 0, 1) := by decide +kernel
theorem dX9_next_109 : decode cX9_next 109 = .ok (.invokevirtual 37, 3) := by decide +kernel
theorem dX9_next_112 : decode cX9_next 112 = .ok (.goto 43, 3) := by decide +kernel
theorem dX9_next_115 : decode cX9_next 115 = .ok (.aload_n 0, 1) := by decide +kernel
theorem dX9_next_116 : decode cX9_next 116 = .ok (.getfield 34, 3) := by decide +kernel
theorem dX9_next_119 : decode cX9_next 119 = .ok (.bipush 48, 2) := by decide +kernel
theorem dX9_next_121 : decode cX9_next 121 = .ok (.if_icmp .lt 19, 3) := by decide +kernel
theorem dX9_next_124 : decode cX9_next 124 = .ok (.aload_n 0, 1) := by decide +kernel
theorem dX9_next_125 : decode cX9_next 125 = .ok (.getfield 34, 3) := by decide +kernel
theorem dX9_next_128 : decode cX9_next 128 = .ok (.bipush 57, 2) := by decide +kernel
theorem dX9_next_130 : decode cX9_next 130 = .ok (.if_icmp .gt 10, 3) := by decide +kernel
theorem dX9_next_133 : decode cX9_next 133 = .ok (.aload_n 0, 1) := by decide +kernel
theorem dX9_next_134 : decode cX9_next 134 = .ok (.invokevirtual 40, 3) := by decide +kernel
theorem dX9_next_137 : decode cX9_next 137 = .ok (.goto 18, 3) := by decide +kernel
theorem dX9_next_140 : decode cX9_next 140 = .ok (.aload_n 0, 1) := by decide +kernel
theorem dX9_next_141 : decode cX9_next 141 = .ok (.iconst 3, 1) := by decide +kernel
theorem dX9_next_142 : decode cX9_next 142 = .ok (.putfield 31, 3) := by decide +kernel
theorem dX9_next_145 : decode cX9_next 145 = .ok (.aload_n 0, 1) := by decide +kernel
theorem dX9_next_146 : decode cX9_next 146 = .ok (.dup, 1) := by decide +kernel
theorem dX9_next_147 : decode cX9_next 147 = .ok (.getfield 22, 3) := by decide +kernel
theorem dX9_next_150 : decode cX9_next 150 = .ok (.iconst 1, 1) := by decide +kernel
theorem dX9_next_151 : decode cX9_next 151 = .ok (.iadd, 1) := by decide +kernel
theorem dX9_next_152 : decode cX9_next 152 = .ok (.putfield 22, 3) := by decide +kernel
theorem dX9_next_155 : decode cX9_next 155 = .ok (.return_, 1) := by decide +kernel
theorem dX9_readWord_0 : decode cX9_readWord 0 = .ok (.aload_n 0, 1) := by decide +kernel
theorem dX9_readWord_1 : decode cX9_readWord 1 = .ok (.lconst 0, 1) := by decide +kernel
theorem dX9_readWord_2 : decode cX9_readWord 2 = .ok (.putfield 43, 3) := by decide +kernel
theorem dX9_readWord_5 : decode cX9_readWord 5 = .ok (.aload_n 0, 1) := by decide +kernel
theorem dX9_readWord_6 : decode cX9_readWord 6 = .ok (.getfield 22, 3) := by decide +kernel
theorem dX9_readWord_9 : decode cX9_readWord 9 = .ok (.aload_n 0, 1) := by decide +kernel
theorem dX9_readWord_10 : decode cX9_readWord 10 = .ok (.getfield 19, 3) := by decide +kernel
theorem dX9_readWord_13 : decode cX9_readWord 13 = .ok (.if_icmp .ge 66, 3) := by decide +kernel
theorem dX9_readWord_16 : decode cX9_readWord 16 = .ok (.aload_n 0, 1) := by decide +kernel
theorem dX9_readWord_17 : decode cX9_readWord 17 = .ok (.getfield 11, 3) := by decide +kernel
theorem dX9_readWord_20 : decode cX9_readWord 20 = .ok (.aload_n 0, 1) := by decide +kernel
theorem dX9_readWord_21 : decode cX9_readWord 21 = .ok (.getfield 22, 3) := by decide +kernel
theorem dX9_readWord_24 : decode cX9_readWord 24 = .ok (.iaload, 1) := by decide +kernel
theorem dX9_readWord_25 : decode cX9_readWord 25 = .ok (.bipush 97, 2) := by decide +kernel
theorem dX9_readWord_27 : decode cX9_readWord 27 = .ok (.if_icmp .lt 52, 3) := by decide +kernel
theorem dX9_readWord_30 : decode cX9_readWord 30 = .ok (.aload_n 0, 1) := by decide +kernel
theorem dX9_readWord_31 : decode cX9_readWord 31 = .ok (.getfield 11, 3) := by decide +kernel
theorem dX9_readWord_34 : decode cX9_readWord 34 = .ok (.aload_n 0, 1) := by decide +kernel
theorem dX9_readWord_35 : decode cX9_readWord 35 = .ok (.getfield 22, 3) := by decide +kernel
theorem dX9_readWord_38 : decode cX9_readWord 38 = .ok (.iaload, 1) := by decide +kernel
theorem dX9_readWord_39 : decode cX9_readWord 39 = .ok (.bipush 122, 2) := by decide +kernel
theorem dX9_readWord_41 : decode cX9_readWord 41 = .ok (.if_icmp .gt 38, 3) := by decide +kernel
theorem dX9_readWord_44 : decode cX9_readWord 44 = .ok (.aload_n 0, 1) := by decide +kernel
theorem dX9_readWord_45 : decode cX9_readWord 45 = .ok (.aload_n 0, 1) := by decide +kernel
theorem dX9_readWord_46 : decode cX9_readWord 46 = .ok (.getfield 43, 3) := by decide +kernel
theorem dX9_readWord_49 : decode cX9_readWord 49 = .ok (.bipush 8, 2) := by decide +kernel
theorem dX9_readWord_51 : decode cX9_readWord 51 = .ok (.lshl, 1) := by decide +kernel
theorem dX9_readWord_52 : decode cX9_readWord 52 = .ok (.aload_n 0, 1) := by decide +kernel
theorem dX9_readWord_53 : decode cX9_readWord 53 = .ok (.getfield 11, 3) := by decide +kernel
theorem dX9_readWord_56 : decode cX9_readWord 56 = .ok (.aload_n 0, 1) := by decide +kernel
theorem dX9_readWord_57 : decode cX9_readWord 57 = .ok (.getfield 22, 3) := by decide +kernel
theorem dX9_readWord_60 : decode cX9_readWord 60 = .ok (.iaload, 1) := by decide +kernel
theorem dX9_readWord_61 : decode cX9_readWord 61 = .ok (.i2l, 1) := by decide +kernel
theorem dX9_readWord_62 : decode cX9_readWord 62 = .ok (.lor, 1) := by decide +kernel
theorem dX9_readWord_63 : decode cX9_readWord 63 = .ok (.putfield 43, 3) := by decide +kernel
theorem dX9_readWord_66 : decode cX9_readWord 66 = .ok (.aload_n 0, 1) := by decide +kernel
theorem dX9_readWord_67 : decode cX9_readWord 67 = .ok (.dup, 1) := by decide +kernel
theorem dX9_readWord_68 : decode cX9_readWord 68 = .ok (.getfield 22, 3) := by decide +kernel
theorem dX9_readWord_71 : decode cX9_readWord 71 = .ok (.iconst 1, 1) := by decide +kernel
theorem dX9_readWord_72 : decode cX9_readWord 72 = .ok (.iadd, 1) := by decide +kernel
theorem dX9_readWord_73 : decode cX9_readWord 73 = .ok (.putfield 22, 3) := by decide +kernel
theorem dX9_readWord_76 : decode cX9_readWord 76 = .ok (.goto (-71), 3) := by decide +kernel
theorem dX9_readWord_79 : decode cX9_readWord 79 = .ok (.aload_n 0, 1) := by decide +kernel
theorem dX9_readWord_80 : decode cX9_readWord 80 = .ok (.aload_n 0, 1) := by decide +kernel
theorem dX9_readWord_81 : decode cX9_readWord 81 = .ok (.getfield 22, 3) := by decide +kernel
theorem dX9_readWord_84 : decode cX9_readWord 84 = .ok (.aload_n 0, 1) := by decide +kernel
theorem dX9_readWord_85 : decode cX9_readWord 85 = .ok (.getfield 28, 3) := by decide +kernel
theorem dX9_readWord_88 : decode cX9_readWord 88 = .ok (.isub, 1) := by decide +kernel
theorem dX9_readWord_89 : decode cX9_readWord 89 = .ok (.bipush 7, 2) := by decide +kernel
theorem dX9_readWord_91 : decode cX9_readWord 91 = .ok (.if_icmp .gt 7, 3) := by decide +kernel
theorem dX9_readWord_94 : decode cX9_readWord 94 = .ok (.iconst 1, 1) := by decide +kernel
theorem dX9_readWord_95 : decode cX9_readWord 95 = .ok (.goto 4, 3) := by decide +kernel
theorem dX9_readWord_98 : decode cX9_readWord 98 = .ok (.iconst 4, 1) := by decide +kernel
theorem dX9_readWord_99 : decode cX9_readWord 99 = .ok (.putfield 31, 3) := by decide +kernel
theorem dX9_readWord_102 : decode cX9_readWord 102 = .ok (.return_, 1) := by decide +kernel
theorem dX9_readNumber_0 : decode cX9_readNumber 0 = .ok (.aload_n 0, 1) := by decide +kernel
theorem dX9_readNumber_1 : decode cX9_readNumber 1 = .ok (.iconst 0, 1) := by decide +kernel
theorem dX9_readNumber_2 : decode cX9_readNumber 2 = .ok (.putfield 47, 3) := by decide +kernel
theorem dX9_readNumber_5 : decode cX9_readNumber 5 = .ok (.aload_n 0, 1) := by decide +kernel
theorem dX9_readNumber_6 : decode cX9_readNumber 6 = .ok (.getfield 22, 3) := by decide +kernel
theorem dX9_readNumber_9 : decode cX9_readNumber 9 = .ok (.aload_n 0, 1) := by decide +kernel
theorem dX9_readNumber_10 : decode cX9_readNumber 10 = .ok (.getfield 19, 3) := by decide +kernel
theorem dX9_readNumber_13 : decode cX9_readNumber 13 = .ok (.if_icmp .ge 68, 3) := by decide +kernel
theorem dX9_readNumber_16 : decode cX9_readNumber 16 = .ok (.aload_n 0, 1) := by decide +kernel
theorem dX9_readNumber_17 : decode cX9_readNumber 17 = .ok (.getfield 11, 3) := by decide +kernel
theorem dX9_readNumber_20 : decode cX9_readNumber 20 = .ok (.aload_n 0, 1) := by decide +kernel
theorem dX9_readNumber_21 : decode cX9_readNumber 21 = .ok (.getfield 22, 3) := by decide +kernel
theorem dX9_readNumber_24 : decode cX9_readNumber 24 = .ok (.iaload, 1) := by decide +kernel
theorem dX9_readNumber_25 : decode cX9_readNumber 25 = .ok (.bipush 48, 2) := by decide +kernel
theorem dX9_readNumber_27 : decode cX9_readNumber 27 = .ok (.if_icmp .lt 54, 3) := by decide +kernel
theorem dX9_readNumber_30 : decode cX9_readNumber 30 = .ok (.aload_n 0, 1) := by decide +kernel
theorem dX9_readNumber_31 : decode cX9_readNumber 31 = .ok (.getfield 11, 3) := by decide +kernel
theorem dX9_readNumber_34 : decode cX9_readNumber 34 = .ok (.aload_n 0, 1) := by decide +kernel
theorem dX9_readNumber_35 : decode cX9_readNumber 35 = .ok (.getfield 22, 3) := by decide +kernel
theorem dX9_readNumber_38 : decode cX9_readNumber 38 = .ok (.iaload, 1) := by decide +kernel
theorem dX9_readNumber_39 : decode cX9_readNumber 39 = .ok (.bipush 57, 2) := by decide +kernel
theorem dX9_readNumber_41 : decode cX9_readNumber 41 = .ok (.if_icmp .gt 40, 3) := by decide +kernel
theorem dX9_readNumber_44 : decode cX9_readNumber 44 = .ok (.aload_n 0, 1) := by decide +kernel
theorem dX9_readNumber_45 : decode cX9_readNumber 45 = .ok (.aload_n 0, 1) := by decide +kernel
theorem dX9_readNumber_46 : decode cX9_readNumber 46 = .ok (.getfield 47, 3) := by decide +kernel
theorem dX9_readNumber_49 : decode cX9_readNumber 49 = .ok (.bipush 10, 2) := by decide +kernel
theorem dX9_readNumber_51 : decode cX9_readNumber 51 = .ok (.imul, 1) := by decide +kernel
theorem dX9_readNumber_52 : decode cX9_readNumber 52 = .ok (.aload_n 0, 1) := by decide +kernel
theorem dX9_readNumber_53 : decode cX9_readNumber 53 = .ok (.getfield 11, 3) := by decide +kernel
theorem dX9_readNumber_56 : decode cX9_readNumber 56 = .ok (.aload_n 0, 1) := by decide +kernel
theorem dX9_readNumber_57 : decode cX9_readNumber 57 = .ok (.getfield 22, 3) := by decide +kernel
theorem dX9_readNumber_60 : decode cX9_readNumber 60 = .ok (.iaload, 1) := by decide +kernel
theorem dX9_readNumber_61 : decode cX9_readNumber 61 = .ok (.iadd, 1) := by decide +kernel
theorem dX9_readNumber_62 : decode cX9_readNumber 62 = .ok (.bipush 48, 2) := by decide +kernel
theorem dX9_readNumber_64 : decode cX9_readNumber 64 = .ok (.isub, 1) := by decide +kernel
theorem dX9_readNumber_65 : decode cX9_readNumber 65 = .ok (.putfield 47, 3) := by decide +kernel
theorem dX9_readNumber_68 : decode cX9_readNumber 68 = .ok (.aload_n 0, 1) := by decide +kernel
theorem dX9_readNumber_69 : decode cX9_readNumber 69 = .ok (.dup, 1) := by decide +kernel
theorem dX9_readNumber_70 : decode cX9_readNumber 70 = .ok (.getfield 22, 3) := by decide +kernel
theorem dX9_readNumber_73 : decode cX9_readNumber 73 = .ok (.iconst 1, 1) := by decide +kernel
theorem dX9_readNumber_74 : decode cX9_readNumber 74 = .ok (.iadd, 1) := by decide +kernel
theorem dX9_readNumber_75 : decode cX9_readNumber 75 = .ok (.putfield 22, 3) := by decide +kernel
theorem dX9_readNumber_78 : decode cX9_readNumber 78 = .ok (.goto (-73), 3) := by decide +kernel
theorem dX9_readNumber_81 : decode cX9_readNumber 81 = .ok (.aload_n 0, 1) := by decide +kernel
theorem dX9_readNumber_82 : decode cX9_readNumber 82 = .ok (.aload_n 0, 1) := by decide +kernel
theorem dX9_readNumber_83 : decode cX9_readNumber 83 = .ok (.getfield 22, 3) := by decide +kernel
theorem dX9_readNumber_86 : decode cX9_readNumber 86 = .ok (.aload_n 0, 1) := by decide +kernel
theorem dX9_readNumber_87 : decode cX9_readNumber 87 = .ok (.getfield 28, 3) := by decide +kernel
theorem dX9_readNumber_90 : decode cX9_readNumber 90 = .ok (.isub, 1) := by decide +kernel
theorem dX9_readNumber_91 : decode cX9_readNumber 91 = .ok (.iconst 3, 1) := by decide +kernel
theorem dX9_readNumber_92 : decode cX9_readNumber 92 = .ok (.if_icmp .gt 7, 3) := by decide +kernel
theorem dX9_readNumber_95 : decode cX9_readNumber 95 = .ok (.iconst 2, 1) := by decide +kernel
theorem dX9_readNumber_96 : decode cX9_readNumber 96 = .ok (.goto 4, 3) := by decide +kernel
theorem dX9_readNumber_99 : decode cX9_readNumber 99 = .ok (.iconst 4, 1) := by decide +kernel
theorem dX9_readNumber_100 : decode cX9_readNumber 100 = .ok (.putfield 31, 3) := by decide +kernel
theorem dX9_readNumber_103 : decode cX9_readNumber 103 = .ok (.return_, 1) := by decide +kernel
theorem dX9_isWord_0 : decode cX9_isWord 0 = .ok (.aload_n 0, 1) := by decide +kernel
theorem dX9_isWord_1 : decode cX9_isWord 1 = .ok (.getfield 31, 3) := by decide +kernel
theorem dX9_isWord_4 : decode cX9_isWord 4 = .ok (.iconst 1, 1) := by decide +kernel
theorem dX9_isWord_5 : decode cX9_isWord 5 = .ok (.if_icmp .ne 16, 3) := by decide +kernel
theorem dX9_isWord_8 : decode cX9_isWord 8 = .ok (.aload_n 0, 1) := by decide +kernel
theorem dX9_isWord_9 : decode cX9_isWord 9 = .ok (.getfield 43, 3) := by decide +kernel
theorem dX9_isWord_12 : decode cX9_isWord 12 = .ok (.lload_n 1, 1) := by decide +kernel
theorem dX9_isWord_13 : decode cX9_isWord 13 = .ok (.lcmp, 1) := by decide +kernel
theorem dX9_isWord_14 : decode cX9_isWord 14 = .ok (.ifCond .ne 7, 3) := by decide +kernel
theorem dX9_isWord_17 : decode cX9_isWord 17 = .ok (.iconst 1, 1) := by decide +kernel
theorem dX9_isWord_18 : decode cX9_isWord 18 = .ok (.goto 4, 3) := by decide +kernel
theorem dX9_isWord_21 : decode cX9_isWord 21 = .ok (.iconst 0, 1) := by decide +kernel
theorem dX9_isWord_22 : decode cX9_isWord 22 = .ok (.ireturn, 1) := by decide +kernel
theorem dX9_isSign_0 : decode cX9_isSign 0 = .ok (.aload_n 0, 1) := by decide +kernel
theorem dX9_isSign_1 : decode cX9_isSign 1 = .ok (.getfield 31, 3) := by decide +kernel
theorem dX9_isSign_4 : decode cX9_isSign 4 = .ok (.iconst 3, 1) := by decide +kernel
theorem dX9_isSign_5 : decode cX9_isSign 5 = .ok (.if_icmp .ne 15, 3) := by decide +kernel
theorem dX9_isSign_8 : decode cX9_isSign 8 = .ok (.aload_n 0, 1) := by decide +kernel
theorem dX9_isSign_9 : decode cX9_isSign 9 = .ok (.getfield 34, 3) := by decide +kernel
theorem dX9_isSign_12 : decode cX9_isSign 12 = .ok (.iload_n 1, 1) := by decide +kernel
theorem dX9_isSign_13 : decode cX9_isSign 13 = .ok (.if_icmp .ne 7, 3) := by decide +kernel
theorem dX9_isSign_16 : decode cX9_isSign 16 = .ok (.iconst 1, 1) := by decide +kernel
theorem dX9_isSign_17 : decode cX9_isSign 17 = .ok (.goto 4, 3) := by decide +kernel
theorem dX9_isSign_20 : decode cX9_isSign 20 = .ok (.iconst 0, 1) := by decide +kernel
theorem dX9_isSign_21 : decode cX9_isSign 21 = .ok (.ireturn, 1) := by decide +kernel
theorem dX9_isName_0 : decode cX9_isName 0 = .ok (.aload_n 0, 1) := by decide +kernel
theorem dX9_isName_1 : decode cX9_isName 1 = .ok (.getfield 31, 3) := by decide +kernel
theorem dX9_isName_4 : decode cX9_isName 4 = .ok (.iconst 1, 1) := by decide +kernel
theorem dX9_isName_5 : decode cX9_isName 5 = .ok (.if_icmp .ne 84, 3) := by decide +kernel
theorem dX9_isName_8 : decode cX9_isName 8 = .ok (.aload_n 0, 1) := by decide +kernel
theorem dX9_isName_9 : decode cX9_isName 9 = .ok (.getfield 43, 3) := by decide +kernel
theorem dX9_isName_12 : decode cX9_isName 12 = .ok (.ldc2_w 50, 3) := by decide +kernel
theorem dX9_isName_15 : decode cX9_isName 15 = .ok (.lcmp, 1) := by decide +kernel
theorem dX9_isName_16 : decode cX9_isName 16 = .ok (.ifCond .eq 73, 3) := by decide +kernel
theorem dX9_isName_19 : decode cX9_isName 19 = .ok (.aload_n 0, 1) := by decide +kernel
theorem dX9_isName_20 : decode cX9_isName 20 = .ok (.getfield 43, 3) := by decide +kernel
theorem dX9_isName_23 : decode cX9_isName 23 = .ok (.ldc2_w 52, 3) := by decide +kernel
theorem dX9_isName_26 : decode cX9_isName 26 = .ok (.lcmp, 1) := by decide +kernel
theorem dX9_isName_27 : decode cX9_isName 27 = .ok (.ifCond .eq 62, 3) := by decide +kernel
theorem dX9_isName_30 : decode cX9_isName 30 = .ok (.aload_n 0, 1) := by decide +kernel
theorem dX9_isName_31 : decode cX9_isName 31 = .ok (.getfield 43, 3) := by decide +kernel
theorem dX9_isName_34 : decode cX9_isName 34 = .ok (.ldc2_w 54, 3) := by decide +kernel
theorem dX9_isName_37 : decode cX9_isName 37 = .ok (.lcmp, 1) := by decide +kernel
theorem dX9_isName_38 : decode cX9_isName 38 = .ok (.ifCond .eq 51, 3) := by decide +kernel
theorem dX9_isName_41 : decode cX9_isName 41 = .ok (.aload_n 0, 1) := by decide +kernel
theorem dX9_isName_42 : decode cX9_isName 42 = .ok (.getfield 43, 3) := by decide +kernel
theorem dX9_isName_45 : decode cX9_isName 45 = .ok (.ldc2_w 56, 3) := by decide +kernel
theorem dX9_isName_48 : decode cX9_isName 48 = .ok (.lcmp, 1) := by decide +kernel
theorem dX9_isName_49 : decode cX9_isName 49 = .ok (.ifCond .eq 40, 3) := by decide +kernel
theorem dX9_isName_52 : decode cX9_isName 52 = .ok (.aload_n 0, 1) := by decide +kernel
theorem dX9_isName_53 : decode cX9_isName 53 = .ok (.getfield 43, 3) := by decide +kernel
theorem dX9_isName_56 : decode cX9_isName 56 = .ok (.ldc2_w 58, 3) := by decide +kernel
theorem dX9_isName_59 : decode cX9_isName 59 = .ok (.lcmp, 1) := by decide +kernel
theorem dX9_isName_60 : decode cX9_isName 60 = .ok (.ifCond .eq 29, 3) := by decide +kernel
theorem dX9_isName_63 : decode cX9_isName 63 = .ok (.aload_n 0, 1) := by decide +kernel
theorem dX9_isName_64 : decode cX9_isName 64 = .ok (.getfield 43, 3) := by decide +kernel
theorem dX9_isName_67 : decode cX9_isName 67 = .ok (.ldc2_w 60, 3) := by decide +kernel
theorem dX9_isName_70 : decode cX9_isName 70 = .ok (.lcmp, 1) := by decide +kernel
theorem dX9_isName_71 : decode cX9_isName 71 = .ok (.ifCond .eq 18, 3) := by decide +kernel
theorem dX9_isName_74 : decode cX9_isName 74 = .ok (.aload_n 0, 1) := by decide +kernel
theorem dX9_isName_75 : decode cX9_isName 75 = .ok (.getfield 43, 3) := by decide +kernel
theorem dX9_isName_78 : decode cX9_isName 78 = .ok (.ldc2_w 62, 3) := by decide +kernel
theorem dX9_isName_81 : decode cX9_isName 81 = .ok (.lcmp, 1) := by decide +kernel
theorem dX9_isName_82 : decode cX9_isName 82 = .ok (.ifCond .eq 7, 3) := by decide +kernel
theorem dX9_isName_85 : decode cX9_isName 85 = .ok (.iconst 1, 1) := by decide +kernel
theorem dX9_isName_86 : decode cX9_isName 86 = .ok (.goto 4, 3) := by decide +kernel
theorem dX9_isName_89 : decode cX9_isName 89 = .ok (.iconst 0, 1) := by decide +kernel
theorem dX9_isName_90 : decode cX9_isName 90 = .ok (.ireturn, 1) := by decide +kernel
theorem dX9_takeWord_0 : decode cX9_takeWord 0 = .ok (.aload_n 0, 1) := by decide +kernel
theorem dX9_takeWord_1 : decode cX9_takeWord 1 = .ok (.invokevirtual 64, 3) := by decide +kernel
theorem dX9_takeWord_4 : decode cX9_takeWord 4 = .ok (.aload_n 0, 1) := by decide +kernel
theorem dX9_takeWord_5 : decode cX9_takeWord 5 = .ok (.lload_n 1, 1) := by decide +kernel
theorem dX9_takeWord_6 : decode cX9_takeWord 6 = .ok (.invokevirtual 67, 3) := by decide +kernel
theorem dX9_takeWord_9 : decode cX9_takeWord 9 = .ok (.ifCond .ne 11, 3) := by decide +kernel
theorem dX9_takeWord_12 : decode cX9_takeWord 12 = .ok (.aload_n 0, 1) := by decide +kernel
theorem dX9_takeWord_13 : decode cX9_takeWord 13 = .ok (.iconst 1, 1) := by decide +kernel
theorem dX9_takeWord_14 : decode cX9_takeWord 14 = .ok (.invokevirtual 71, 3) := by decide +kernel
theorem dX9_takeWord_17 : decode cX9_takeWord 17 = .ok (.ifCond .eq 7, 3) := by decide +kernel
theorem dX9_takeWord_20 : decode cX9_takeWord 20 = .ok (.iconst 1, 1) := by decide +kernel
theorem dX9_takeWord_21 : decode cX9_takeWord 21 = .ok (.goto 4, 3) := by decide +kernel
theorem dX9_takeWord_24 : decode cX9_takeWord 24 = .ok (.iconst 0, 1) := by decide +kernel
theorem dX9_takeWord_25 : decode cX9_takeWord 25 = .ok (.ireturn, 1) := by decide +kernel
theorem dX9_takeSign_0 : decode cX9_takeSign 0 = .ok (.aload_n 0, 1) := by decide +kernel
theorem dX9_takeSign_1 : decode cX9_takeSign 1 = .ok (.invokevirtual 64, 3) := by decide +kernel
theorem dX9_takeSign_4 : decode cX9_takeSign 4 = .ok (.aload_n 0, 1) := by decide +kernel
theorem dX9_takeSign_5 : decode cX9_takeSign 5 = .ok (.iload_n 1, 1) := by decide +kernel
theorem dX9_takeSign_6 : decode cX9_takeSign 6 = .ok (.invokevirtual 75, 3) := by decide +kernel
theorem dX9_takeSign_9 : decode cX9_takeSign 9 = .ok (.ifCond .ne 11, 3) := by decide +kernel
theorem dX9_takeSign_12 : decode cX9_takeSign 12 = .ok (.aload_n 0, 1) := by decide +kernel
theorem dX9_takeSign_13 : decode cX9_takeSign 13 = .ok (.iconst 1, 1) := by decide +kernel
theorem dX9_takeSign_14 : decode cX9_takeSign 14 = .ok (.invokevirtual 71, 3) := by decide +kernel
theorem dX9_takeSign_17 : decode cX9_takeSign 17 = .ok (.ifCond .eq 7, 3) := by decide +kernel
theorem dX9_takeSign_20 : decode cX9_takeSign 20 = .ok (.iconst 1, 1) := by decide +kernel
theorem dX9_takeSign_21 : decode cX9_takeSign 21 = .ok (.goto 4, 3) := by decide +kernel
theorem dX9_takeSign_24 : decode cX9_takeSign 24 = .ok (.iconst 0, 1) := by decide +kernel
theorem dX9_takeSign_25 : decode cX9_takeSign 25 = .ok (.ireturn, 1) := by decide +kernel
theorem dX9_takeName_0 : decode cX9_takeName 0 = .ok (.aload_n 0, 1) := by decide +kernel
theorem dX9_takeName_1 : decode cX9_takeName 1 = .ok (.invokevirtual 64, 3) := by decide +kernel
theorem dX9_takeName_4 : decode cX9_takeName 4 = .ok (.aload_n 0, 1) := by decide +kernel
theorem dX9_takeName_5 : decode cX9_takeName 5 = .ok (.invokevirtual 79, 3) := by decide +kernel
theorem dX9_takeName_8 : decode cX9_takeName 8 = .ok (.ifCond .ne 11, 3) := by decide +kernel
theorem dX9_takeName_11 : decode cX9_takeName 11 = .ok (.aload_n 0, 1) := by decide +kernel
theorem dX9_takeName_12 : decode cX9_takeName 12 = .ok (.iconst 1, 1) := by decide +kernel
theorem dX9_takeName_13 : decode cX9_takeName 13 = .ok (.invokevirtual 71, 3) := by decide +kernel
theorem dX9_takeName_16 : decode cX9_takeName 16 = .ok (.ifCond .eq 7, 3) := by decide +kernel
theorem dX9_takeName_19 : decode cX9_takeName 19 = .ok (.iconst 1, 1) := by decide +kernel
theorem dX9_takeName_20 : decode cX9_takeName 20 = .ok (.goto 4, 3) := by decide +kernel
theorem dX9_takeName_23 : decode cX9_takeName 23 = .ok (.iconst 0, 1) := by decide +kernel
theorem dX9_takeName_24 : decode cX9_takeName 24 = .ok (.ireturn, 1) := by decide +kernel
theorem dX9_takeNumber_0 : decode cX9_takeNumber 0 = .ok (.aload_n 0, 1) := by decide +kernel
theorem dX9_takeNumber_1 : decode cX9_takeNumber 1 = .ok (.invokevirtual 64, 3) := by decide +kernel
theorem dX9_takeNumber_4 : decode cX9_takeNumber 4 = .ok (.aload_n 0, 1) := by decide +kernel
theorem dX9_takeNumber_5 : decode cX9_takeNumber 5 = .ok (.getfield 31, 3) := by decide +kernel
theorem dX9_takeNumber_8 : decode cX9_takeNumber 8 = .ok (.iconst 2, 1) := by decide +kernel
theorem dX9_takeNumber_9 : decode cX9_takeNumber 9 = .ok (.if_icmp .eq 11, 3) := by decide +kernel
theorem dX9_takeNumber_12 : decode cX9_takeNumber 12 = .ok (.aload_n 0, 1) := by decide +kernel
theorem dX9_takeNumber_13 : decode cX9_takeNumber 13 = .ok (.iconst 1, 1) := by decide +kernel
theorem dX9_takeNumber_14 : decode cX9_takeNumber 14 = .ok (.invokevirtual 71, 3) := by decide +kernel
theorem dX9_takeNumber_17 : decode cX9_takeNumber 17 = .ok (.pop, 1) := by decide +kernel
theorem dX9_takeNumber_18 : decode cX9_takeNumber 18 = .ok (.iconst (-1), 1) := by decide +kernel
theorem dX9_takeNumber_19 : decode cX9_takeNumber 19 = .ok (.ireturn, 1) := by decide +kernel
theorem dX9_takeNumber_20 : decode cX9_takeNumber 20 = .ok (.aload_n 0, 1) := by decide +kernel
theorem dX9_takeNumber_21 : decode cX9_takeNumber 21 = .ok (.getfield 47, 3) := by decide +kernel
theorem dX9_takeNumber_24 : decode cX9_takeNumber 24 = .ok (.iload_n 1, 1) := by decide +kernel
theorem dX9_takeNumber_25 : decode cX9_takeNumber 25 = .ok (.if_icmp .lt 11, 3) := by decide +kernel
theorem dX9_takeNumber_28 : decode cX9_takeNumber 28 = .ok (.aload_n 0, 1) := by decide +kernel
theorem dX9_takeNumber_29 : decode cX9_takeNumber 29 = .ok (.getfield 47, 3) := by decide +kernel
theorem dX9_takeNumber_32 : decode cX9_takeNumber 32 = .ok (.iload_n 2, 1) := by decide +kernel
theorem dX9_takeNumber_33 : decode cX9_takeNumber 33 = .ok (.if_icmp .le 11, 3) := by decide +kernel
theorem dX9_takeNumber_36 : decode cX9_takeNumber 36 = .ok (.aload_n 0, 1) := by decide +kernel
theorem dX9_takeNumber_37 : decode cX9_takeNumber 37 = .ok (.iconst 3, 1) := by decide +kernel
theorem dX9_takeNumber_38 : decode cX9_takeNumber 38 = .ok (.invokevirtual 71, 3) := by decide +kernel
theorem dX9_takeNumber_41 : decode cX9_takeNumber 41 = .ok (.pop, 1) := by decide +kernel
theorem dX9_takeNumber_42 : decode cX9_takeNumber 42 = .ok (.iconst (-1), 1) := by decide +kernel
theorem dX9_takeNumber_43 : decode cX9_takeNumber 43 = .ok (.ireturn, 1) := by decide +kernel
theorem dX9_takeNumber_44 : decode cX9_takeNumber 44 = .ok (.aload_n 0, 1) := by decide +kernel
theorem dX9_takeNumber_45 : decode cX9_takeNumber 45 = .ok (.getfield 47, 3) := by decide +kernel
theorem dX9_takeNumber_48 : decode cX9_takeNumber 48 = .ok (.ireturn, 1) := by decide +kernel
theorem dX10_init_0 : decode cX10_init 0 = .ok (.aload_n 0, 1) := by decide +kernel
theorem dX10_init_1 : decode cX10_init 1 = .ok (.invokespecial 3, 3) := by decide +kernel
theorem dX10_init_4 : decode cX10_init 4 = .ok (.aload_n 0, 1) := by decide +kernel
theorem dX10_init_5 : decode cX10_init 5 = .ok (.aload_n 1, 1) := by decide +kernel
theorem dX10_init_6 : decode cX10_init 6 = .ok (.putfield 9, 3) := by decide +kernel
theorem dX10_init_9 : decode cX10_init 9 = .ok (.aload_n 0, 1) := by decide +kernel
theorem dX10_init_10 : decode cX10_init 10 = .ok (.sipush 900, 3) := by decide +kernel
theorem dX10_init_13 : decode cX10_init 13 = .ok (.newarray .int, 2) := by decide +kernel
theorem dX10_init_15 : decode cX10_init 15 = .ok (.putfield 15, 3) := by decide +kernel
theorem dX10_init_18 : decode cX10_init 18 = .ok (.aload_n 0, 1) := by decide +kernel
theorem dX10_init_19 : decode cX10_init 19 = .ok (.bipush 12, 2) := by decide +kernel
theorem dX10_init_21 : decode cX10_init 21 = .ok (.newarray .int, 2) := by decide +kernel
theorem dX10_init_23 : decode cX10_init 23 = .ok (.putfield 19, 3) := by decide +kernel
theorem dX10_init_26 : decode cX10_init 26 = .ok (.aload_n 0, 1) := by decide +kernel
theorem dX10_init_27 : decode cX10_init 27 = .ok (.bipush 36, 2) := by decide +kernel
theorem dX10_init_29 : decode cX10_init 29 = .ok (.newarray .int, 2) := by decide +kernel
theorem dX10_init_31 : decode cX10_init 31 = .ok (.putfield 22, 3) := by decide +kernel
theorem dX10_init_34 : decode cX10_init 34 = .ok (.return_, 1) := by decide +kernel
theorem dX10_measure_0 : decode cX10_measure 0 = .ok (.iconst 0, 1) := by decide +kernel
theorem dX10_measure_1 : decode cX10_measure 1 = .ok (.istore_n 1, 1) := by decide +kernel
theorem dX10_measure_2 : decode cX10_measure 2 = .ok (.iload_n 1, 1) := by decide +kernel
theorem dX10_measure_3 : decode cX10_measure 3 = .ok (.aload_n 0, 1) := by decide +kernel
theorem dX10_measure_4 : decode cX10_measure 4 = .ok (.getfield 9, 3) := by decide +kernel
theorem dX10_measure_7 : decode cX10_measure 7 = .ok (.getfield 25, 3) := by decide +kernel
theorem dX10_measure_10 : decode cX10_measure 10 = .ok (.if_icmp .ge 103, 3) := by decide +kernel
theorem dX10_measure_13 : decode cX10_measure 13 = .ok (.iconst 0, 1) := by decide +kernel
theorem dX10_measure_14 : decode cX10_measure 14 = .ok (.istore_n 2, 1) := by decide +kernel
theorem dX10_measure_15 : decode cX10_measure 15 = .ok (.iload_n 2, 1) := by decide +kernel
theorem dX10_measure_16 : decode cX10_measure 16 = .ok (.iload_n 1, 1) := by decide +kernel
theorem dX10_measure_17 : decode cX10_measure 17 = .ok (.if_icmp .gt 90, 3) := by decide +kernel
theorem dX10_measure_20 : decode cX10_measure 20 = .ok (.aload_n 0, 1) := by decide +kernel
theorem dX10_measure_21 : decode cX10_measure 21 = .ok (.getfield 9, 3) := by decide +kernel
theorem dX10_measure_24 : decode cX10_measure 24 = .ok (.getfield 31, 3) := by decide +kernel
theorem dX10_measure_27 : decode cX10_measure 27 = .ok (.iload_n 1, 1) := by decide +kernel
theorem dX10_measure_28 : decode cX10_measure 28 = .ok (.iaload, 1) := by decide +kernel
theorem dX10_measure_29 : decode cX10_measure 29 = .ok (.aload_n 0, 1) := by decide +kernel
theorem dX10_measure_30 : decode cX10_measure 30 = .ok (.getfield 9, 3) := by decide +kernel
theorem dX10_measure_33 : decode cX10_measure 33 = .ok (.getfield 31, 3) := by decide +kernel
theorem dX10_measure_36 : decode cX10_measure 36 = .ok (.iload_n 2, 1) := by decide +kernel
theorem dX10_measure_37 : decode cX10_measure 37 = .ok (.iaload, 1) := by decide +kernel
theorem dX10_measure_38 : decode cX10_measure 38 = .ok (.isub, 1) := by decide +kernel
theorem dX10_measure_39 : decode cX10_measure 39 = .ok (.istore_n 3, 1) := by decide +kernel
theorem dX10_measure_40 : decode cX10_measure 40 = .ok (.aload_n 0, 1) := by decide +kernel
theorem dX10_measure_41 : decode cX10_measure 41 = .ok (.getfield 9, 3) := by decide +kernel
theorem dX10_measure_44 : decode cX10_measure 44 = .ok (.getfield 34, 3) := by decide +kernel
theorem dX10_measure_47 : decode cX10_measure 47 = .ok (.iload_n 1, 1) := by decide +kernel
theorem dX10_measure_48 : decode cX10_measure 48 = .ok (.iaload, 1) := by decide +kernel
theorem dX10_measure_49 : decode cX10_measure 49 = .ok (.aload_n 0, 1) := by decide +kernel
theorem dX10_measure_50 : decode cX10_measure 50 = .ok (.getfield 9, 3) := by decide +kernel
theorem dX10_measure_53 : decode cX10_measure 53 = .ok (.getfield 34, 3) := by decide +kernel
theorem dX10_measure_56 : decode cX10_measure 56 = .ok (.iload_n 2, 1) := by decide +kernel
theorem dX10_measure_57 : decode cX10_measure 57 = .ok (.iaload, 1) := by decide +kernel
theorem dX10_measure_58 : decode cX10_measure 58 = .ok (.isub, 1) := by decide +kernel
theorem dX10_measure_59 : decode cX10_measure 59 = .ok (.istore 4, 2) := by decide +kernel
theorem dX10_measure_61 : decode cX10_measure 61 = .ok (.iload_n 3, 1) := by decide +kernel
theorem dX10_measure_62 : decode cX10_measure 62 = .ok (.iload_n 3, 1) := by decide +kernel
theorem dX10_measure_63 : decode cX10_measure 63 = .ok (.imul, 1) := by decide +kernel
theorem dX10_measure_64 : decode cX10_measure 64 = .ok (.iload 4, 2) := by decide +kernel
theorem dX10_measure_66 : decode cX10_measure 66 = .ok (.iload 4, 2) := by decide +kernel
theorem dX10_measure_68 : decode cX10_measure 68 = .ok (.imul, 1) := by decide +kernel
theorem dX10_measure_69 : decode cX10_measure 69 = .ok (.iadd, 1) := by decide +kernel
theorem dX10_measure_70 : decode cX10_measure 70 = .ok (.invokestatic 37, 3) := by decide +kernel
theorem dX10_measure_73 : decode cX10_measure 73 = .ok (.istore 5, 2) := by decide +kernel
theorem dX10_measure_75 : decode cX10_measure 75 = .ok (.aload_n 0, 1) := by decide +kernel
theorem dX10_measure_76 : decode cX10_measure 76 = .ok (.getfield 15, 3) := by decide +kernel
theorem dX10_measure_79 : decode cX10_measure 79 = .ok (.iload_n 1, 1) := by decide +kernel
theorem dX10_measure_80 : decode cX10_measure 80 = .ok (.bipush 30, 2) := by decide +kernel
theorem dX10_measure_82 : decode cX10_measure 82 = .ok (.imul, 1) := by decide +kernel
theorem dX10_measure_83 : decode cX10_measure 83 = .ok (.iload_n 2, 1) := by decide +kernel
theorem dX10_measure_84 : decode cX10_measure 84 = .ok (.iadd, 1) := by decide +kernel
theorem dX10_measure_85 : decode cX10_measure 85 = .ok (.iload 5, 2) := by decide +kernel
theorem dX10_measure_87 : decode cX10_measure 87 = .ok (.iastore, 1) := by decide +kernel
theorem dX10_measure_88 : decode cX10_measure 88 = .ok (.aload_n 0, 1) := by decide +kernel
theorem dX10_measure_89 : decode cX10_measure 89 = .ok (.getfield 15, 3) := by decide +kernel
theorem dX10_measure_92 : decode cX10_measure 92 = .ok (.iload_n 2, 1) := by decide +kernel
theorem dX10_measure_93 : decode cX10_measure 93 = .ok (.bipush 30, 2) := by decide +kernel
theorem dX10_measure_95 : decode cX10_measure 95 = .ok (.imul, 1) := by decide +kernel
theorem dX10_measure_96 : decode cX10_measure 96 = .ok (.iload_n 1, 1) := by decide +kernel
theorem dX10_measure_97 : decode cX10_measure 97 = .ok (.iadd, 1) := by decide +kernel
theorem dX10_measure_98 : decode cX10_measure 98 = .ok (.iload 5, 2) := by decide +kernel
theorem dX10_measure_100 : decode cX10_measure 100 = .ok (.iastore, 1) := by decide +kernel
theorem dX10_measure_101 : decode cX10_measure 101 = .ok (.iinc 2 1, 3) := by decide +kernel
theorem dX10_measure_104 : decode cX10_measure 104 = .ok (.goto (-89), 3) := by decide +kernel
theorem dX10_measure_107 : decode cX10_measure 107 = .ok (.iinc 1 1, 3) := by decide +kernel
theorem dX10_measure_110 : decode cX10_measure 110 = .ok (.goto (-108), 3) := by decide +kernel
theorem dX10_measure_113 : decode cX10_measure 113 = .ok (.return_, 1) := by decide +kernel
theorem dX10_rootOf_0 : decode cX10_rootOf 0 = .ok (.iconst 0, 1) := by decide +kernel
theorem dX10_rootOf_1 : decode cX10_rootOf 1 = .ok (.istore_n 1, 1) := by decide +kernel
theorem dX10_rootOf_2 : decode cX10_rootOf 2 = .ok (.sipush 128, 3) := by decide +kernel
theorem dX10_rootOf_5 : decode cX10_rootOf 5 = .ok (.istore_n 2, 1) := by decide +kernel
theorem dX10_rootOf_6 : decode cX10_rootOf 6 = .ok (.iload_n 2, 1) := by decide +kernel
theorem dX10_rootOf_7 : decode cX10_rootOf 7 = .ok (.ifCond .le 23, 3) := by decide +kernel
theorem dX10_rootOf_10 : decode cX10_rootOf 10 = .ok (.iload_n 1, 1) := by decide +kernel
theorem dX10_rootOf_11 : decode cX10_rootOf 11 = .ok (.iload_n 2, 1) := by decide +kernel
theorem dX10_rootOf_12 : decode cX10_rootOf 12 = .ok (.iadd, 1) := by decide +kernel
theorem dX10_rootOf_13 : decode cX10_rootOf 13 = .ok (.istore_n 3, 1) := by decide +kernel
theorem dX10_rootOf_14 : decode cX10_rootOf 14 = .ok (.iload_n 3, 1) := by decide +kernel
theorem dX10_rootOf_15 : decode cX10_rootOf 15 = .ok (.iload_n 3, 1) := by decide +kernel
theorem dX10_rootOf_16 : decode cX10_rootOf 16 = .ok (.imul, 1) := by decide +kernel
theorem dX10_rootOf_17 : decode cX10_rootOf 17 = .ok (.iload_n 0, 1) := by decide +kernel
theorem dX10_rootOf_18 : decode cX10_rootOf 18 = .ok (.if_icmp .gt 5, 3) := by decide +kernel
theorem dX10_rootOf_21 : decode cX10_rootOf 21 = .ok (.iload_n 3, 1) := by decide +kernel
theorem dX10_rootOf_22 : decode cX10_rootOf 22 = .ok (.istore_n 1, 1) := by decide +kernel
theorem dX10_rootOf_23 : decode cX10_rootOf 23 = .ok (.iload_n 2, 1) := by decide +kernel
theorem dX10_rootOf_24 : decode cX10_rootOf 24 = .ok (.iconst 1, 1) := by decide +kernel
theorem dX10_rootOf_25 : decode cX10_rootOf 25 = .ok (.ishr, 1) := by decide +kernel
theorem dX10_rootOf_26 : decode cX10_rootOf 26 = .ok (.istore_n 2, 1) := by decide +kernel
theorem dX10_rootOf_27 : decode cX10_rootOf 27 = .ok (.goto (-21), 3) := by decide +kernel
theorem dX10_rootOf_30 : decode cX10_rootOf 30 = .ok (.iload_n 1, 1) := by decide +kernel
theorem dX10_rootOf_31 : decode cX10_rootOf 31 = .ok (.ireturn, 1) := by decide +kernel
theorem dX10_between_0 : decode cX10_between 0 = .ok (.aload_n 0, 1) := by decide +kernel
theorem dX10_between_1 : decode cX10_between 1 = .ok (.getfield 15, 3) := by decide +kernel
theorem dX10_between_4 : decode cX10_between 4 = .ok (.iload_n 1, 1) := by decide +kernel
theorem dX10_between_5 : decode cX10_between 5 = .ok (.bipush 30, 2) := by decide +kernel
theorem dX10_between_7 : decode cX10_between 7 = .ok (.imul, 1) := by decide +kernel
theorem dX10_between_8 : decode cX10_between 8 = .ok (.iload_n 2, 1) := by decide +kernel
theorem dX10_between_9 : decode cX10_between 9 = .ok (.iadd, 1) := by decide +kernel
theorem dX10_between_10 : decode cX10_between 10 = .ok (.iaload, 1) := by decide +kernel
theorem dX10_between_11 : decode cX10_between 11 = .ok (.ireturn, 1) := by decide +kernel
theorem dX10_toDivision_0 : decode cX10_toDivision 0 = .ok (.iconst 0, 1) := by decide +kernel
theorem dX10_toDivision_1 : decode cX10_toDivision 1 = .ok (.istore 4, 2) := by decide +kernel
theorem dX10_toDivision_3 : decode cX10_toDivision 3 = .ok (.iconst 0, 1) := by decide +kernel
theorem dX10_toDivision_4 : decode cX10_toDivision 4 = .ok (.istore 5, 2) := by decide +kernel
theorem dX10_toDivision_6 : decode cX10_toDivision 6 = .ok (.iload 5, 2) := by decide +kernel
theorem dX10_toDivision_8 : decode cX10_toDivision 8 = .ok (.aload_n 0, 1) := by decide +kernel
theorem dX10_toDivision_9 : decode cX10_toDivision 9 = .ok (.getfield 9, 3) := by decide +kernel
theorem dX10_toDivision_12 : decode cX10_toDivision 12 = .ok (.getfield 25, 3) := by decide +kernel
theorem dX10_toDivision_15 : decode cX10_toDivision 15 = .ok (.if_icmp .ge 35, 3) := by decide +kernel
theorem dX10_toDivision_18 : decode cX10_toDivision 18 = .ok (.aload_n 0, 1) := by decide +kernel
theorem dX10_toDivision_19 : decode cX10_toDivision 19 = .ok (.getfield 9, 3) := by decide +kernel
theorem dX10_toDivision_22 : decode cX10_toDivision 22 = .ok (.iload 5, 2) := by decide +kernel
theorem dX10_toDivision_24 : decode cX10_toDivision 24 = .ok (.iload_n 2, 1) := by decide +kernel
theorem dX10_toDivision_25 : decode cX10_toDivision 25 = .ok (.iload_n 3, 1) := by decide +kernel
theorem dX10_toDivision_26 : decode cX10_toDivision 26 = .ok (.invokevirtual 41, 3) := by decide +kernel
theorem dX10_toDivision_29 : decode cX10_toDivision 29 = .ok (.ifCond .eq 15, 3) := by decide +kernel
theorem dX10_toDivision_32 : decode cX10_toDivision 32 = .ok (.iload 4, 2) := by decide +kernel
theorem dX10_toDivision_34 : decode cX10_toDivision 34 = .ok (.aload_n 0, 1) := by decide +kernel
theorem dX10_toDivision_35 : decode cX10_toDivision 35 = .ok (.iload_n 1, 1) := by decide +kernel
theorem dX10_toDivision_36 : decode cX10_toDivision 36 = .ok (.iload 5, 2) := by decide +kernel
theorem dX10_toDivision_38 : decode cX10_toDivision 38 = .ok (.invokevirtual 45, 3) := by decide +kernel
theorem dX10_toDivision_41 : decode cX10_toDivision 41 = .ok (.iadd, 1) := by decide +kernel
theorem dX10_toDivision_42 : decode cX10_toDivision 42 = .ok (.istore 4, 2) := by decide +kernel
theorem dX10_toDivision_44 : decode cX10_toDivision 44 = .ok (.iinc 5 1, 3) := by decide +kernel
theorem dX10_toDivision_47 : decode cX10_toDivision 47 = .ok (.goto (-41), 3) := by decide +kernel
theorem dX10_toDivision_50 : decode cX10_toDivision 50 = .ok (.iload 4, 2) := by decide +kernel
theorem dX10_toDivision_52 : decode cX10_toDivision 52 = .ok (.ireturn, 1) := by decide +kernel
theorem dX10_withinTwice_0 : decode cX10_withinTwice 0 = .ok (.iconst 0, 1) := by decide +kernel
theorem dX10_withinTwice_1 : decode cX10_withinTwice 1 = .ok (.istore_n 3, 1) := by decide +kernel
theorem dX10_withinTwice_2 : decode cX10_withinTwice 2 = .ok (.iconst 0, 1) := by decide +kernel
theorem dX10_withinTwice_3 : decode cX10_withinTwice 3 = .ok (.istore 4, 2) := by decide +kernel
theorem dX10_withinTwice_5 : decode cX10_withinTwice 5 = .ok (.iload 4, 2) := by decide +kernel
theorem dX10_withinTwice_7 : decode cX10_withinTwice 7 = .ok (.aload_n 0, 1) := by decide +kernel
theorem dX10_withinTwice_8 : decode cX10_withinTwice 8 = .ok (.getfield 9, 3) := by decide +kernel
theorem dX10_withinTwice_11 : decode cX10_withinTwice 11 = .ok (.getfield 25, 3) := by decide +kernel
theorem dX10_withinTwice_14 : decode cX10_withinTwice 14 = .ok (.if_icmp .ge 34, 3) := by decide +kernel
theorem dX10_withinTwice_17 : decode cX10_withinTwice 17 = .ok (.aload_n 0, 1) := by decide +kernel
theorem dX10_withinTwice_18 : decode cX10_withinTwice 18 = .ok (.getfield 9, 3) := by decide +kernel
theorem dX10_withinTwice_21 : decode cX10_withinTwice 21 = .ok (.iload 4, 2) := by decide +kernel
theorem dX10_withinTwice_23 : decode cX10_withinTwice 23 = .ok (.iload_n 1, 1) := by decide +kernel
theorem dX10_withinTwice_24 : decode cX10_withinTwice 24 = .ok (.iload_n 2, 1) := by decide +kernel
theorem dX10_withinTwice_25 : decode cX10_withinTwice 25 = .ok (.invokevirtual 41, 3) := by decide +kernel
theorem dX10_withinTwice_28 : decode cX10_withinTwice 28 = .ok (.ifCond .eq 14, 3) := by decide +kernel
theorem dX10_withinTwice_31 : decode cX10_withinTwice 31 = .ok (.iload_n 3, 1) := by decide +kernel
theorem dX10_withinTwice_32 : decode cX10_withinTwice 32 = .ok (.aload_n 0, 1) := by decide +kernel
theorem dX10_withinTwice_33 : decode cX10_withinTwice 33 = .ok (.iload 4, 2) := by decide +kernel
theorem dX10_withinTwice_35 : decode cX10_withinTwice 35 = .ok (.iload_n 1, 1) := by decide +kernel
theorem dX10_withinTwice_36 : decode cX10_withinTwice 36 = .ok (.iload_n 2, 1) := by decide +kernel
theorem dX10_withinTwice_37 : decode cX10_withinTwice 37 = .ok (.invokevirtual 49, 3) := by decide +kernel
theorem dX10_withinTwice_40 : decode cX10_withinTwice 40 = .ok (.iadd, 1) := by decide +kernel
theorem dX10_withinTwice_41 : decode cX10_withinTwice 41 = .ok (.istore_n 3, 1) := by decide +kernel
theorem dX10_withinTwice_42 : decode cX10_withinTwice 42 = .ok (.iinc 4 1, 3) := by decide +kernel
theorem dX10_withinTwice_45 : decode cX10_withinTwice 45 = .ok (.goto (-40), 3) := by decide +kernel
theorem dX10_withinTwice_48 : decode cX10_withinTwice 48 = .ok (.iload_n 3, 1) := by decide +kernel
theorem dX10_withinTwice_49 : decode cX10_withinTwice 49 = .ok (.ireturn, 1) := by decide +kernel
theorem dX10_ofLevel_0 : decode cX10_ofLevel 0 = .ok (.iconst 0, 1) := by decide +kernel
theorem dX10_ofLevel_1 : decode cX10_ofLevel 1 = .ok (.istore_n 2, 1) := by decide +kernel
theorem dX10_ofLevel_2 : decode cX10_ofLevel 2 = .ok (.iconst 0, 1) := by decide +kernel
theorem dX10_ofLevel_3 : decode cX10_ofLevel 3 = .ok (.istore_n 3, 1) := by decide +kernel
theorem dX10_ofLevel_4 : decode cX10_ofLevel 4 = .ok (.iload_n 3, 1) := by decide +kernel
theorem dX10_ofLevel_5 : decode cX10_ofLevel 5 = .ok (.aload_n 0, 1) := by decide +kernel
theorem dX10_ofLevel_6 : decode cX10_ofLevel 6 = .ok (.getfield 9, 3) := by decide +kernel
theorem dX10_ofLevel_9 : decode cX10_ofLevel 9 = .ok (.getfield 53, 3) := by decide +kernel
theorem dX10_ofLevel_12 : decode cX10_ofLevel 12 = .ok (.iload_n 1, 1) := by decide +kernel
theorem dX10_ofLevel_13 : decode cX10_ofLevel 13 = .ok (.iaload, 1) := by decide +kernel
theorem dX10_ofLevel_14 : decode cX10_ofLevel 14 = .ok (.if_icmp .ge 18, 3) := by decide +kernel
theorem dX10_ofLevel_17 : decode cX10_ofLevel 17 = .ok (.iload_n 2, 1) := by decide +kernel
theorem dX10_ofLevel_18 : decode cX10_ofLevel 18 = .ok (.aload_n 0, 1) := by decide +kernel
theorem dX10_ofLevel_19 : decode cX10_ofLevel 19 = .ok (.iload_n 1, 1) := by decide +kernel
theorem dX10_ofLevel_20 : decode cX10_ofLevel 20 = .ok (.iload_n 3, 1) := by decide +kernel
theorem dX10_ofLevel_21 : decode cX10_ofLevel 21 = .ok (.invokevirtual 56, 3) := by decide +kernel
theorem dX10_ofLevel_24 : decode cX10_ofLevel 24 = .ok (.iadd, 1) := by decide +kernel
theorem dX10_ofLevel_25 : decode cX10_ofLevel 25 = .ok (.istore_n 2, 1) := by decide +kernel
theorem dX10_ofLevel_26 : decode cX10_ofLevel 26 = .ok (.iinc 3 1, 3) := by decide +kernel
theorem dX10_ofLevel_29 : decode cX10_ofLevel 29 = .ok (.goto (-25), 3) := by decide +kernel
theorem dX10_ofLevel_32 : decode cX10_ofLevel 32 = .ok (.iload_n 2, 1) := by decide +kernel
theorem dX10_ofLevel_33 : decode cX10_ofLevel 33 = .ok (.iconst 2, 1) := by decide +kernel
theorem dX10_ofLevel_34 : decode cX10_ofLevel 34 = .ok (.idiv, 1) := by decide +kernel
theorem dX10_ofLevel_35 : decode cX10_ofLevel 35 = .ok (.ireturn, 1) := by decide +kernel
theorem dX10_survey_0 : decode cX10_survey 0 = .ok (.aload_n 0, 1) := by decide +kernel
theorem dX10_survey_1 : decode cX10_survey 1 = .ok (.aload_n 0, 1) := by decide +kernel
theorem dX10_survey_2 : decode cX10_survey 2 = .ok (.getfield 9, 3) := by decide +kernel
theorem dX10_survey_5 : decode cX10_survey 5 = .ok (.iload_n 1, 1) := by decide +kernel
theorem dX10_survey_6 : decode cX10_survey 6 = .ok (.aload_n 0, 1) := by decide +kernel
theorem dX10_survey_7 : decode cX10_survey 7 = .ok (.getfield 19, 3) := by decide +kernel
theorem dX10_survey_10 : decode cX10_survey 10 = .ok (.invokevirtual 59, 3) := by decide +kernel
theorem dX10_survey_13 : decode cX10_survey 13 = .ok (.putfield 63, 3) := by decide +kernel
theorem dX10_survey_16 : decode cX10_survey 16 = .ok (.iconst 0, 1) := by decide +kernel
theorem dX10_survey_17 : decode cX10_survey 17 = .ok (.istore_n 2, 1) := by decide +kernel
theorem dX10_survey_18 : decode cX10_survey 18 = .ok (.iload_n 2, 1) := by decide +kernel
theorem dX10_survey_19 : decode cX10_survey 19 = .ok (.aload_n 0, 1) := by decide +kernel
theorem dX10_survey_20 : decode cX10_survey 20 = .ok (.getfield 63, 3) := by decide +kernel
theorem dX10_survey_23 : decode cX10_survey 23 = .ok (.if_icmp .ge 44, 3) := by decide +kernel
theorem dX10_survey_26 : decode cX10_survey 26 = .ok (.iconst 0, 1) := by decide +kernel
theorem dX10_survey_27 : decode cX10_survey 27 = .ok (.istore_n 3, 1) := by decide +kernel
theorem dX10_survey_28 : decode cX10_survey 28 = .ok (.iload_n 3, 1) := by decide +kernel
theorem dX10_survey_29 : decode cX10_survey 29 = .ok (.iconst 3, 1) := by decide +kernel
theorem dX10_survey_30 : decode cX10_survey 30 = .ok (.if_icmp .ge 31, 3) := by decide +kernel
theorem dX10_survey_33 : decode cX10_survey 33 = .ok (.aload_n 0, 1) := by decide +kernel
theorem dX10_survey_34 : decode cX10_survey 34 = .ok (.getfield 22, 3) := by decide +kernel
theorem dX10_survey_37 : decode cX10_survey 37 = .ok (.iload_n 2, 1) := by decide +kernel
theorem dX10_survey_38 : decode cX10_survey 38 = .ok (.iconst 3, 1) := by decide +kernel
theorem dX10_survey_39 : decode cX10_survey 39 = .ok (.imul, 1) := by decide +kernel
theorem dX10_survey_40 : decode cX10_survey 40 = .ok (.iload_n 3, 1) := by decide +kernel
theorem dX10_survey_41 : decode cX10_survey 41 = .ok (.iadd, 1) := by decide +kernel
theorem dX10_survey_42 : decode cX10_survey 42 = .ok (.aload_n 0, 1) := by decide +kernel
theorem dX10_survey_43 : decode cX10_survey 43 = .ok (.aload_n 0, 1) := by decide +kernel
theorem dX10_survey_44 : decode cX10_survey 44 = .ok (.getfield 19, 3) := by decide +kernel
theorem dX10_survey_47 : decode cX10_survey 47 = .ok (.iload_n 2, 1) := by decide +kernel
theorem dX10_survey_48 : decode cX10_survey 48 = .ok (.iaload, 1) := by decide +kernel
theorem dX10_survey_49 : decode cX10_survey 49 = .ok (.iload_n 1, 1) := by decide +kernel
theorem dX10_survey_50 : decode cX10_survey 50 = .ok (.iload_n 3, 1) := by decide +kernel
theorem dX10_survey_51 : decode cX10_survey 51 = .ok (.invokevirtual 49, 3) := by decide +kernel
theorem dX10_survey_54 : decode cX10_survey 54 = .ok (.iastore, 1) := by decide +kernel
theorem dX10_survey_55 : decode cX10_survey 55 = .ok (.iinc 3 1, 3) := by decide +kernel
theorem dX10_survey_58 : decode cX10_survey 58 = .ok (.goto (-30), 3) := by decide +kernel
theorem dX10_survey_61 : decode cX10_survey 61 = .ok (.iinc 2 1, 3) := by decide +kernel
theorem dX10_survey_64 : decode cX10_survey 64 = .ok (.goto (-46), 3) := by decide +kernel
theorem dX10_survey_67 : decode cX10_survey 67 = .ok (.return_, 1) := by decide +kernel
theorem dX10_farFrom_0 : decode cX10_farFrom 0 = .ok (.aload_n 0, 1) := by decide +kernel
theorem dX10_farFrom_1 : decode cX10_farFrom 1 = .ok (.getfield 22, 3) := by decide +kernel
theorem dX10_farFrom_4 : decode cX10_farFrom 4 = .ok (.iload_n 1, 1) := by decide +kernel
theorem dX10_farFrom_5 : decode cX10_farFrom 5 = .ok (.iconst 3, 1) := by decide +kernel
theorem dX10_farFrom_6 : decode cX10_farFrom 6 = .ok (.imul, 1) := by decide +kernel
theorem dX10_farFrom_7 : decode cX10_farFrom 7 = .ok (.iload_n 2, 1) := by decide +kernel
theorem dX10_farFrom_8 : decode cX10_farFrom 8 = .ok (.iadd, 1) := by decide +kernel
theorem dX10_farFrom_9 : decode cX10_farFrom 9 = .ok (.iaload, 1) := by decide +kernel
theorem dX10_farFrom_10 : decode cX10_farFrom 10 = .ok (.ireturn, 1) := by decide +kernel
theorem dX10_divisionOf_0 : decode cX10_divisionOf 0 = .ok (.aload_n 0, 1) := by decide +kernel
theorem dX10_divisionOf_1 : decode cX10_divisionOf 1 = .ok (.getfield 9, 3) := by decide +kernel
theorem dX10_divisionOf_4 : decode cX10_divisionOf 4 = .ok (.getfield 66, 3) := by decide +kernel
theorem dX10_divisionOf_7 : decode cX10_divisionOf 7 = .ok (.aload_n 0, 1) := by decide +kernel
theorem dX10_divisionOf_8 : decode cX10_divisionOf 8 = .ok (.getfield 19, 3) := by decide +kernel
theorem dX10_divisionOf_11 : decode cX10_divisionOf 11 = .ok (.iload_n 1, 1) := by decide +kernel
theorem dX10_divisionOf_12 : decode cX10_divisionOf 12 = .ok (.iaload, 1) := by decide +kernel
theorem dX10_divisionOf_13 : decode cX10_divisionOf 13 = .ok (.iaload, 1) := by decide +kernel
theorem dX10_divisionOf_14 : decode cX10_divisionOf 14 = .ok (.ireturn, 1) := by decide +kernel
theorem dX10_findSwap_0 : decode cX10_findSwap 0 = .ok (.aload_n 0, 1) := by decide +kernel
theorem dX10_findSwap_1 : decode cX10_findSwap 1 = .ok (.iload_n 1, 1) := by decide +kernel
theorem dX10_findSwap_2 : decode cX10_findSwap 2 = .ok (.invokevirtual 69, 3) := by decide +kernel
theorem dX10_findSwap_5 : decode cX10_findSwap 5 = .ok (.aload_n 0, 1) := by decide +kernel
theorem dX10_findSwap_6 : decode cX10_findSwap 6 = .ok (.iconst 0, 1) := by decide +kernel
theorem dX10_findSwap_7 : decode cX10_findSwap 7 = .ok (.putfield 73, 3) := by decide +kernel
theorem dX10_findSwap_10 : decode cX10_findSwap 10 = .ok (.iconst 0, 1) := by decide +kernel
theorem dX10_findSwap_11 : decode cX10_findSwap 11 = .ok (.istore_n 2, 1) := by decide +kernel
theorem dX10_findSwap_12 : decode cX10_findSwap 12 = .ok (.iload_n 2, 1) := by decide +kernel
theorem dX10_findSwap_13 : decode cX10_findSwap 13 = .ok (.aload_n 0, 1) := by decide +kernel
theorem dX10_findSwap_14 : decode cX10_findSwap 14 = .ok (.getfield 63, 3) := by decide +kernel
theorem dX10_findSwap_17 : decode cX10_findSwap 17 = .ok (.if_icmp .ge 87, 3) := by decide +kernel
theorem dX10_findSwap_20 : decode cX10_findSwap 20 = .ok (.iload_n 2, 1) := by decide +kernel
theorem dX10_findSwap_21 : decode cX10_findSwap 21 = .ok (.iconst 1, 1) := by decide +kernel
theorem dX10_findSwap_22 : decode cX10_findSwap 22 = .ok (.iadd, 1) := by decide +kernel
theorem dX10_findSwap_23 : decode cX10_findSwap 23 = .ok (.istore_n 3, 1) := by decide +kernel
theorem dX10_findSwap_24 : decode cX10_findSwap 24 = .ok (.iload_n 3, 1) := by decide +kernel
theorem dX10_findSwap_25 : decode cX10_findSwap 25 = .ok (.aload_n 0, 1) := by decide +kernel
theorem dX10_findSwap_26 : decode cX10_findSwap 26 = .ok (.getfield 63, 3) := by decide +kernel
theorem dX10_findSwap_29 : decode cX10_findSwap 29 = .ok (.if_icmp .ge 69, 3) := by decide +kernel
theorem dX10_findSwap_32 : decode cX10_findSwap 32 = .ok (.aload_n 0, 1) := by decide +kernel
theorem dX10_findSwap_33 : decode cX10_findSwap 33 = .ok (.iload_n 2, 1) := by decide +kernel
theorem dX10_findSwap_34 : decode cX10_findSwap 34 = .ok (.invokevirtual 76, 3) := by decide +kernel
theorem dX10_findSwap_37 : decode cX10_findSwap 37 = .ok (.aload_n 0, 1) := by decide +kernel
theorem dX10_findSwap_38 : decode cX10_findSwap 38 = .ok (.iload_n 3, 1) := by decide +kernel
theorem dX10_findSwap_39 : decode cX10_findSwap 39 = .ok (.invokevirtual 76, 3) := by decide +kernel
theorem dX10_findSwap_42 : decode cX10_findSwap 42 = .ok (.if_icmp .eq 12, 3) := by decide +kernel
theorem dX10_findSwap_45 : decode cX10_findSwap 45 = .ok (.aload_n 0, 1) := by decide +kernel
theorem dX10_findSwap_46 : decode cX10_findSwap 46 = .ok (.iload_n 2, 1) := by decide +kernel
theorem dX10_findSwap_47 : decode cX10_findSwap 47 = .ok (.iload_n 3, 1) := by decide +kernel
theorem dX10_findSwap_48 : decode cX10_findSwap 48 = .ok (.invokevirtual 79, 3) := by decide +kernel
theorem dX10_findSwap_51 : decode cX10_findSwap 51 = .ok (.goto 4, 3) := by decide +kernel
theorem dX10_findSwap_54 : decode cX10_findSwap 54 = .ok (.iconst 0, 1) := by decide +kernel
theorem dX10_findSwap_55 : decode cX10_findSwap 55 = .ok (.istore 4, 2) := by decide +kernel
theorem dX10_findSwap_57 : decode cX10_findSwap 57 = .ok (.iload 4, 2) := by decide +kernel
theorem dX10_findSwap_59 : decode cX10_findSwap 59 = .ok (.aload_n 0, 1) := by decide +kernel
theorem dX10_findSwap_60 : decode cX10_findSwap 60 = .ok (.getfield 73, 3) := by decide +kernel
theorem dX10_findSwap_63 : decode cX10_findSwap 63 = .ok (.if_icmp .le 29, 3) := by decide +kernel
theorem dX10_findSwap_66 : decode cX10_findSwap 66 = .ok (.aload_n 0, 1) := by decide +kernel
theorem dX10_findSwap_67 : decode cX10_findSwap 67 = .ok (.iload 4, 2) := by decide +kernel
theorem dX10_findSwap_69 : decode cX10_findSwap 69 = .ok (.putfield 73, 3) := by decide +kernel
theorem dX10_findSwap_72 : decode cX10_findSwap 72 = .ok (.aload_n 0, 1) := by decide +kernel
theorem dX10_findSwap_73 : decode cX10_findSwap 73 = .ok (.aload_n 0, 1) := by decide +kernel
theorem dX10_findSwap_74 : decode cX10_findSwap 74 = .ok (.getfield 19, 3) := by decide +kernel
theorem dX10_findSwap_77 : decode cX10_findSwap 77 = .ok (.iload_n 2, 1) := by decide +kernel
theorem dX10_findSwap_78 : decode cX10_findSwap 78 = .ok (.iaload, 1) := by decide +kernel
theorem dX10_findSwap_79 : decode cX10_findSwap 79 = .ok (.putfield 82, 3) := by decide +kernel
theorem dX10_findSwap_82 : decode cX10_findSwap 82 = .ok (.aload_n 0, 1) := by decide +kernel
theorem dX10_findSwap_83 : decode cX10_findSwap 83 = .ok (.aload_n 0, 1) := by decide +kernel
theorem dX10_findSwap_84 : decode cX10_findSwap 84 = .ok (.getfield 19, 3) := by decide +kernel
theorem dX10_findSwap_87 : decode cX10_findSwap 87 = .ok (.iload_n 3, 1) := by decide +kernel
theorem dX10_findSwap_88 : decode cX10_findSwap 88 = .ok (.iaload, 1) := by decide +kernel
theorem dX10_findSwap_89 : decode cX10_findSwap 89 = .ok (.putfield 85, 3) := by decide +kernel
theorem dX10_findSwap_92 : decode cX10_findSwap 92 = .ok (.iinc 3 1, 3) := by decide +kernel
theorem dX10_findSwap_95 : decode cX10_findSwap 95 = .ok (.goto (-71), 3) := by decide +kernel
theorem dX10_findSwap_98 : decode cX10_findSwap 98 = .ok (.iinc 2 1, 3) := by decide +kernel
theorem dX10_findSwap_101 : decode cX10_findSwap 101 = .ok (.goto (-89), 3) := by decide +kernel
theorem dX10_findSwap_104 : decode cX10_findSwap 104 = .ok (.aload_n 0, 1) := by decide +kernel
theorem dX10_findSwap_105 : decode cX10_findSwap 105 = .ok (.getfield 73, 3) := by decide +kernel
theorem dX10_findSwap_108 : decode cX10_findSwap 108 = .ok (.ifCond .le 7, 3) := by decide +kernel
theorem dX10_findSwap_111 : decode cX10_findSwap 111 = .ok (.iconst 1, 1) := by decide +kernel
theorem dX10_findSwap_112 : decode cX10_findSwap 112 = .ok (.goto 4, 3) := by decide +kernel
theorem dX10_findSwap_115 : decode cX10_findSwap 115 = .ok (.iconst 0, 1) := by decide +kernel
theorem dX10_findSwap_116 : decode cX10_findSwap 116 = .ok (.ireturn, 1) := by decide +kernel
theorem dX10_savingOf_0 : decode cX10_savingOf 0 = .ok (.aload_n 0, 1) := by decide +kernel
theorem dX10_savingOf_1 : decode cX10_savingOf 1 = .ok (.iload_n 1, 1) := by decide +kernel
theorem dX10_savingOf_2 : decode cX10_savingOf 2 = .ok (.aload_n 0, 1) := by decide +kernel
theorem dX10_savingOf_3 : decode cX10_savingOf 3 = .ok (.iload_n 1, 1) := by decide +kernel
theorem dX10_savingOf_4 : decode cX10_savingOf 4 = .ok (.invokevirtual 76, 3) := by decide +kernel
theorem dX10_savingOf_7 : decode cX10_savingOf 7 = .ok (.invokevirtual 88, 3) := by decide +kernel
theorem dX10_savingOf_10 : decode cX10_savingOf 10 = .ok (.aload_n 0, 1) := by decide +kernel
theorem dX10_savingOf_11 : decode cX10_savingOf 11 = .ok (.iload_n 2, 1) := by decide +kernel
theorem dX10_savingOf_12 : decode cX10_savingOf 12 = .ok (.aload_n 0, 1) := by decide +kernel
theorem dX10_savingOf_13 : decode cX10_savingOf 13 = .ok (.iload_n 2, 1) := by decide +kernel
theorem dX10_savingOf_14 : decode cX10_savingOf 14 = .ok (.invokevirtual 76, 3) := by decide +kernel
theorem dX10_savingOf_17 : decode cX10_savingOf 17 = .ok (.invokevirtual 88, 3) := by decide +kernel
theorem dX10_savingOf_20 : decode cX10_savingOf 20 = .ok (.iadd, 1) := by decide +kernel
theorem dX10_savingOf_21 : decode cX10_savingOf 21 = .ok (.istore_n 3, 1) := by decide +kernel
theorem dX10_savingOf_22 : decode cX10_savingOf 22 = .ok (.aload_n 0, 1) := by decide +kernel
theorem dX10_savingOf_23 : decode cX10_savingOf 23 = .ok (.iload_n 1, 1) := by decide +kernel
theorem dX10_savingOf_24 : decode cX10_savingOf 24 = .ok (.aload_n 0, 1) := by decide +kernel
theorem dX10_savingOf_25 : decode cX10_savingOf 25 = .ok (.iload_n 2, 1) := by decide +kernel
theorem dX10_savingOf_26 : decode cX10_savingOf 26 = .ok (.invokevirtual 76, 3) := by decide +kernel
theorem dX10_savingOf_29 : decode cX10_savingOf 29 = .ok (.invokevirtual 88, 3) := by decide +kernel
theorem dX10_savingOf_32 : decode cX10_savingOf 32 = .ok (.aload_n 0, 1) := by decide +kernel
theorem dX10_savingOf_33 : decode cX10_savingOf 33 = .ok (.iload_n 2, 1) := by decide +kernel
theorem dX10_savingOf_34 : decode cX10_savingOf 34 = .ok (.aload_n 0, 1) := by decide +kernel
theorem dX10_savingOf_35 : decode cX10_savingOf 35 = .ok (.iload_n 1, 1) := by decide +kernel
theorem dX10_savingOf_36 : decode cX10_savingOf 36 = .ok (.invokevirtual 76, 3) := by decide +kernel
theorem dX10_savingOf_39 : decode cX10_savingOf 39 = .ok (.invokevirtual 88, 3) := by decide +kernel
theorem dX10_savingOf_42 : decode cX10_savingOf 42 = .ok (.iadd, 1) := by decide +kernel
theorem dX10_savingOf_43 : decode cX10_savingOf 43 = .ok (.istore 4, 2) := by decide +kernel
theorem dX10_savingOf_45 : decode cX10_savingOf 45 = .ok (.iload_n 3, 1) := by decide +kernel
theorem dX10_savingOf_46 : decode cX10_savingOf 46 = .ok (.iload 4, 2) := by decide +kernel
theorem dX10_savingOf_48 : decode cX10_savingOf 48 = .ok (.isub, 1) := by decide +kernel
theorem dX10_savingOf_49 : decode cX10_savingOf 49 = .ok (.iconst 2, 1) := by decide +kernel
theorem dX10_savingOf_50 : decode cX10_savingOf 50 = .ok (.aload_n 0, 1) := by decide +kernel
theorem dX10_savingOf_51 : decode cX10_savingOf 51 = .ok (.aload_n 0, 1) := by decide +kernel
theorem dX10_savingOf_52 : decode cX10_savingOf 52 = .ok (.getfield 19, 3) := by decide +kernel
theorem dX10_savingOf_55 : decode cX10_savingOf 55 = .ok (.iload_n 1, 1) := by decide +kernel
theorem dX10_savingOf_56 : decode cX10_savingOf 56 = .ok (.iaload, 1) := by decide +kernel
theorem dX10_savingOf_57 : decode cX10_savingOf 57 = .ok (.aload_n 0, 1) := by decide +kernel
theorem dX10_savingOf_58 : decode cX10_savingOf 58 = .ok (.getfield 19, 3) := by decide +kernel
theorem dX10_savingOf_61 : decode cX10_savingOf 61 = .ok (.iload_n 2, 1) := by decide +kernel
theorem dX10_savingOf_62 : decode cX10_savingOf 62 = .ok (.iaload, 1) := by decide +kernel
theorem dX10_savingOf_63 : decode cX10_savingOf 63 = .ok (.invokevirtual 45, 3) := by decide +kernel
theorem dX10_savingOf_66 : decode cX10_savingOf 66 = .ok (.imul, 1) := by decide +kernel
theorem dX10_savingOf_67 : decode cX10_savingOf 67 = .ok (.iadd, 1) := by decide +kernel
theorem dX10_savingOf_68 : decode cX10_savingOf 68 = .ok (.ireturn, 1) := by decide +kernel
theorem dX10_midmost_0 : decode cX10_midmost 0 = .ok (.aload_n 0, 1) := by decide +kernel
theorem dX10_midmost_1 : decode cX10_midmost 1 = .ok (.iload_n 1, 1) := by decide +kernel
theorem dX10_midmost_2 : decode cX10_midmost 2 = .ok (.invokevirtual 69, 3) := by decide +kernel
theorem dX10_midmost_5 : decode cX10_midmost 5 = .ok (.iconst (-1), 1) := by decide +kernel
theorem dX10_midmost_6 : decode cX10_midmost 6 = .ok (.istore_n 2, 1) := by decide +kernel
theorem dX10_midmost_7 : decode cX10_midmost 7 = .ok (.ldc 93, 2) := by decide +kernel
theorem dX10_midmost_9 : decode cX10_midmost 9 = .ok (.istore_n 3, 1) := by decide +kernel
theorem dX10_midmost_10 : decode cX10_midmost 10 = .ok (.iconst 0, 1) := by decide +kernel
theorem dX10_midmost_11 : decode cX10_midmost 11 = .ok (.istore 4, 2) := by decide +kernel
theorem dX10_midmost_13 : decode cX10_midmost 13 = .ok (.iload 4, 2) := by decide +kernel
theorem dX10_midmost_15 : decode cX10_midmost 15 = .ok (.aload_n 0, 1) := by decide +kernel
theorem dX10_midmost_16 : decode cX10_midmost 16 = .ok (.getfield 63, 3) := by decide +kernel
theorem dX10_midmost_19 : decode cX10_midmost 19 = .ok (.if_icmp .ge 57, 3) := by decide +kernel
theorem dX10_midmost_22 : decode cX10_midmost 22 = .ok (.iconst 0, 1) := by decide +kernel
theorem dX10_midmost_23 : decode cX10_midmost 23 = .ok (.istore 5, 2) := by decide +kernel
theorem dX10_midmost_25 : decode cX10_midmost 25 = .ok (.iconst 0, 1) := by decide +kernel
theorem dX10_midmost_26 : decode cX10_midmost 26 = .ok (.istore 6, 2) := by decide +kernel
theorem dX10_midmost_28 : decode cX10_midmost 28 = .ok (.iload 6, 2) := by decide +kernel
theorem dX10_midmost_30 : decode cX10_midmost 30 = .ok (.iconst 3, 1) := by decide +kernel
theorem dX10_midmost_31 : decode cX10_midmost 31 = .ok (.if_icmp .ge 22, 3) := by decide +kernel
theorem dX10_midmost_34 : decode cX10_midmost 34 = .ok (.iload 5, 2) := by decide +kernel
theorem dX10_midmost_36 : decode cX10_midmost 36 = .ok (.aload_n 0, 1) := by decide +kernel
theorem dX10_midmost_37 : decode cX10_midmost 37 = .ok (.iload 4, 2) := by decide +kernel
theorem dX10_midmost_39 : decode cX10_midmost 39 = .ok (.iload 6, 2) := by decide +kernel
theorem dX10_midmost_41 : decode cX10_midmost 41 = .ok (.invokevirtual 88, 3) := by decide +kernel
theorem dX10_midmost_44 : decode cX10_midmost 44 = .ok (.iadd, 1) := by decide +kernel
theorem dX10_midmost_45 : decode cX10_midmost 45 = .ok (.istore 5, 2) := by decide +kernel
theorem dX10_midmost_47 : decode cX10_midmost 47 = .ok (.iinc 6 1, 3) := by decide +kernel
theorem dX10_midmost_50 : decode cX10_midmost 50 = .ok (.goto (-22), 3) := by decide +kernel
theorem dX10_midmost_53 : decode cX10_midmost 53 = .ok (.iload 5, 2) := by decide +kernel
theorem dX10_midmost_55 : decode cX10_midmost 55 = .ok (.iload_n 3, 1) := by decide +kernel
theorem dX10_midmost_56 : decode cX10_midmost 56 = .ok (.if_icmp .ge 14, 3) := by decide +kernel
theorem dX10_midmost_59 : decode cX10_midmost 59 = .ok (.iload 5, 2) := by decide +kernel
theorem dX10_midmost_61 : decode cX10_midmost 61 = .ok (.istore_n 3, 1) := by decide +kernel
theorem dX10_midmost_62 : decode cX10_midmost 62 = .ok (.aload_n 0, 1) := by decide +kernel
theorem dX10_midmost_63 : decode cX10_midmost 63 = .ok (.getfield 19, 3) := by decide +kernel
theorem dX10_midmost_66 : decode cX10_midmost 66 = .ok (.iload 4, 2) := by decide +kernel
theorem dX10_midmost_68 : decode cX10_midmost 68 = .ok (.iaload, 1) := by decide +kernel
theorem dX10_midmost_69 : decode cX10_midmost 69 = .ok (.istore_n 2, 1) := by decide +kernel
theorem dX10_midmost_70 : decode cX10_midmost 70 = .ok (.iinc 4 1, 3) := by decide +kernel
theorem dX10_midmost_73 : decode cX10_midmost 73 = .ok (.goto (-60), 3) := by decide +kernel
theorem dX10_midmost_76 : decode cX10_midmost 76 = .ok (.iload_n 2, 1) := by decide +kernel
theorem dX10_midmost_77 : decode cX10_midmost 77 = .ok (.ireturn, 1) := by decide +kernel
theorem dX10_closest_0 : decode cX10_closest 0 = .ok (.iconst (-1), 1) := by decide +kernel
theorem dX10_closest_1 : decode cX10_closest 1 = .ok (.istore_n 2, 1) := by decide +kernel
theorem dX10_closest_2 : decode cX10_closest 2 = .ok (.ldc 93, 2) := by decide +kernel
theorem dX10_closest_4 : decode cX10_closest 4 = .ok (.istore_n 3, 1) := by decide +kernel
theorem dX10_closest_5 : decode cX10_closest 5 = .ok (.iconst 0, 1) := by decide +kernel
theorem dX10_closest_6 : decode cX10_closest 6 = .ok (.istore 4, 2) := by decide +kernel
theorem dX10_closest_8 : decode cX10_closest 8 = .ok (.iload 4, 2) := by decide +kernel
theorem dX10_closest_10 : decode cX10_closest 10 = .ok (.aload_n 0, 1) := by decide +kernel
theorem dX10_closest_11 : decode cX10_closest 11 = .ok (.getfield 9, 3) := by decide +kernel
theorem dX10_closest_14 : decode cX10_closest 14 = .ok (.getfield 25, 3) := by decide +kernel
theorem dX10_closest_17 : decode cX10_closest 17 = .ok (.if_icmp .ge 50, 3) := by decide +kernel
theorem dX10_closest_20 : decode cX10_closest 20 = .ok (.iload 4, 2) := by decide +kernel
theorem dX10_closest_22 : decode cX10_closest 22 = .ok (.iload_n 1, 1) := by decide +kernel
theorem dX10_closest_23 : decode cX10_closest 23 = .ok (.if_icmp .eq 38, 3) := by decide +kernel
theorem dX10_closest_26 : decode cX10_closest 26 = .ok (.aload_n 0, 1) := by decide +kernel
theorem dX10_closest_27 : decode cX10_closest 27 = .ok (.getfield 9, 3) := by decide +kernel
theorem dX10_closest_30 : decode cX10_closest 30 = .ok (.iload_n 1, 1) := by decide +kernel
theorem dX10_closest_31 : decode cX10_closest 31 = .ok (.iload 4, 2) := by decide +kernel
theorem dX10_closest_33 : decode cX10_closest 33 = .ok (.invokevirtual 94, 3) := by decide +kernel
theorem dX10_closest_36 : decode cX10_closest 36 = .ok (.ifCond .eq 25, 3) := by decide +kernel
theorem dX10_closest_39 : decode cX10_closest 39 = .ok (.aload_n 0, 1) := by decide +kernel
theorem dX10_closest_40 : decode cX10_closest 40 = .ok (.iload_n 1, 1) := by decide +kernel
theorem dX10_closest_41 : decode cX10_closest 41 = .ok (.iload 4, 2) := by decide +kernel
theorem dX10_closest_43 : decode cX10_closest 43 = .ok (.invokevirtual 45, 3) := by decide +kernel
theorem dX10_closest_46 : decode cX10_closest 46 = .ok (.iload_n 3, 1) := by decide +kernel
theorem dX10_closest_47 : decode cX10_closest 47 = .ok (.if_icmp .ge 14, 3) := by decide +kernel
theorem dX10_closest_50 : decode cX10_closest 50 = .ok (.aload_n 0, 1) := by decide +kernel
theorem dX10_closest_51 : decode cX10_closest 51 = .ok (.iload_n 1, 1) := by decide +kernel
theorem dX10_closest_52 : decode cX10_closest 52 = .ok (.iload 4, 2) := by decide +kernel
theorem dX10_closest_54 : decode cX10_closest 54 = .ok (.invokevirtual 45, 3) := by decide +kernel
theorem dX10_closest_57 : decode cX10_closest 57 = .ok (.istore_n 3, 1) := by decide +kernel
theorem dX10_closest_58 : decode cX10_closest 58 = .ok (.iload 4, 2) := by decide +kernel
theorem dX10_closest_60 : decode cX10_closest 60 = .ok (.istore_n 2, 1) := by decide +kernel
theorem dX10_closest_61 : decode cX10_closest 61 = .ok (.iinc 4 1, 3) := by decide +kernel
theorem dX10_closest_64 : decode cX10_closest 64 = .ok (.goto (-56), 3) := by decide +kernel
theorem dX10_closest_67 : decode cX10_closest 67 = .ok (.iload_n 2, 1) := by decide +kernel
theorem dX10_closest_68 : decode cX10_closest 68 = .ok (.ireturn, 1) := by decide +kernel
theorem dX10_strangersOf_0 : decode cX10_strangersOf 0 = .ok (.aload_n 0, 1) := by decide +kernel
theorem dX10_strangersOf_1 : decode cX10_strangersOf 1 = .ok (.iload_n 1, 1) := by decide +kernel
theorem dX10_strangersOf_2 : decode cX10_strangersOf 2 = .ok (.invokevirtual 69, 3) := by decide +kernel
theorem dX10_strangersOf_5 : decode cX10_strangersOf 5 = .ok (.iconst 0, 1) := by decide +kernel
theorem dX10_strangersOf_6 : decode cX10_strangersOf 6 = .ok (.istore_n 2, 1) := by decide +kernel
theorem dX10_strangersOf_7 : decode cX10_strangersOf 7 = .ok (.iconst 0, 1) := by decide +kernel
theorem dX10_strangersOf_8 : decode cX10_strangersOf 8 = .ok (.istore_n 3, 1) := by decide +kernel
theorem dX10_strangersOf_9 : decode cX10_strangersOf 9 = .ok (.iload_n 3, 1) := by decide +kernel
theorem dX10_strangersOf_10 : decode cX10_strangersOf 10 = .ok (.aload_n 0, 1) := by decide +kernel
theorem dX10_strangersOf_11 : decode cX10_strangersOf 11 = .ok (.getfield 63, 3) := by decide +kernel
theorem dX10_strangersOf_14 : decode cX10_strangersOf 14 = .ok (.if_icmp .ge 63, 3) := by decide +kernel
theorem dX10_strangersOf_17 : decode cX10_strangersOf 17 = .ok (.iconst 0, 1) := by decide +kernel
theorem dX10_strangersOf_18 : decode cX10_strangersOf 18 = .ok (.istore 4, 2) := by decide +kernel
theorem dX10_strangersOf_20 : decode cX10_strangersOf 20 = .ok (.iload 4, 2) := by decide +kernel
theorem dX10_strangersOf_22 : decode cX10_strangersOf 22 = .ok (.aload_n 0, 1) := by decide +kernel
theorem dX10_strangersOf_23 : decode cX10_strangersOf 23 = .ok (.getfield 9, 3) := by decide +kernel
theorem dX10_strangersOf_26 : decode cX10_strangersOf 26 = .ok (.getfield 53, 3) := by decide +kernel
theorem dX10_strangersOf_29 : decode cX10_strangersOf 29 = .ok (.iload_n 1, 1) := by decide +kernel
theorem dX10_strangersOf_30 : decode cX10_strangersOf 30 = .ok (.iaload, 1) := by decide +kernel
theorem dX10_strangersOf_31 : decode cX10_strangersOf 31 = .ok (.if_icmp .ge 40, 3) := by decide +kernel
theorem dX10_strangersOf_34 : decode cX10_strangersOf 34 = .ok (.aload_n 0, 1) := by decide +kernel
theorem dX10_strangersOf_35 : decode cX10_strangersOf 35 = .ok (.iload_n 3, 1) := by decide +kernel
theorem dX10_strangersOf_36 : decode cX10_strangersOf 36 = .ok (.iload 4, 2) := by decide +kernel
theorem dX10_strangersOf_38 : decode cX10_strangersOf 38 = .ok (.invokevirtual 88, 3) := by decide +kernel
theorem dX10_strangersOf_41 : decode cX10_strangersOf 41 = .ok (.aload_n 0, 1) := by decide +kernel
theorem dX10_strangersOf_42 : decode cX10_strangersOf 42 = .ok (.iload_n 3, 1) := by decide +kernel
theorem dX10_strangersOf_43 : decode cX10_strangersOf 43 = .ok (.aload_n 0, 1) := by decide +kernel
theorem dX10_strangersOf_44 : decode cX10_strangersOf 44 = .ok (.iload_n 3, 1) := by decide +kernel
theorem dX10_strangersOf_45 : decode cX10_strangersOf 45 = .ok (.invokevirtual 76, 3) := by decide +kernel
theorem dX10_strangersOf_48 : decode cX10_strangersOf 48 = .ok (.invokevirtual 88, 3) := by decide +kernel
theorem dX10_strangersOf_51 : decode cX10_strangersOf 51 = .ok (.if_icmp .ge 14, 3) := by decide +kernel
theorem dX10_strangersOf_54 : decode cX10_strangersOf 54 = .ok (.iload_n 2, 1) := by decide +kernel
theorem dX10_strangersOf_55 : decode cX10_strangersOf 55 = .ok (.iconst 1, 1) := by decide +kernel
theorem dX10_strangersOf_56 : decode cX10_strangersOf 56 = .ok (.aload_n 0, 1) := by decide +kernel
theorem dX10_strangersOf_57 : decode cX10_strangersOf 57 = .ok (.getfield 19, 3) := by decide +kernel
theorem dX10_strangersOf_60 : decode cX10_strangersOf 60 = .ok (.iload_n 3, 1) := by decide +kernel
theorem dX10_strangersOf_61 : decode cX10_strangersOf 61 = .ok (.iaload, 1) := by decide +kernel
theorem dX10_strangersOf_62 : decode cX10_strangersOf 62 = .ok (.ishl, 1) := by decide +kernel
theorem dX10_strangersOf_63 : decode cX10_strangersOf 63 = .ok (.ior, 1) := by decide +kernel
theorem dX10_strangersOf_64 : decode cX10_strangersOf 64 = .ok (.istore_n 2, 1) := by decide +kernel
theorem dX10_strangersOf_65 : decode cX10_strangersOf 65 = .ok (.iinc 4 1, 3) := by decide +kernel
theorem dX10_strangersOf_68 : decode cX10_strangersOf 68 = .ok (.goto (-48), 3) := by decide +kernel
theorem dX10_strangersOf_71 : decode cX10_strangersOf 71 = .ok (.iinc 3 1, 3) := by decide +kernel
theorem dX10_strangersOf_74 : decode cX10_strangersOf 74 = .ok (.goto (-65), 3) := by decide +kernel
theorem dX10_strangersOf_77 : decode cX10_strangersOf 77 = .ok (.iload_n 2, 1) := by decide +kernel
theorem dX10_strangersOf_78 : decode cX10_strangersOf 78 = .ok (.ireturn, 1) := by decide +kernel
theorem dX11_init_0 : decode cX11_init 0 = .ok (.aload_n 0, 1) := by decide +kernel
theorem dX11_init_1 : decode cX11_init 1 = .ok (.invokespecial 1, 3) := by decide +kernel
theorem dX11_init_4 : decode cX11_init 4 = .ok (.aload_n 0, 1) := by decide +kernel
theorem dX11_init_5 : decode cX11_init 5 = .ok (.new 7, 3) := by decide +kernel
theorem dX11_init_8 : decode cX11_init 8 = .ok (.dup, 1) := by decide +kernel
theorem dX11_init_9 : decode cX11_init 9 = .ok (.invokespecial 9, 3) := by decide +kernel
theorem dX11_init_12 : decode cX11_init 12 = .ok (.putfield 10, 3) := by decide +kernel
theorem dX11_init_15 : decode cX11_init 15 = .ok (.aload_n 0, 1) := by decide +kernel
theorem dX11_init_16 : decode cX11_init 16 = .ok (.new 16, 3) := by decide +kernel
theorem dX11_init_19 : decode cX11_init 19 = .ok (.dup, 1) := by decide +kernel
theorem dX11_init_20 : decode cX11_init 20 = .ok (.invokespecial 18, 3) := by decide +kernel
theorem dX11_init_23 : decode cX11_init 23 = .ok (.putfield 19, 3) := by decide +kernel
theorem dX11_init_26 : decode cX11_init 26 = .ok (.aload_n 0, 1) := by decide +kernel
theorem dX11_init_27 : decode cX11_init 27 = .ok (.new 23, 3) := by decide +kernel
theorem dX11_init_30 : decode cX11_init 30 = .ok (.dup, 1) := by decide +kernel
theorem dX11_init_31 : decode cX11_init 31 = .ok (.invokespecial 25, 3) := by decide +kernel
theorem dX11_init_34 : decode cX11_init 34 = .ok (.putfield 26, 3) := by decide +kernel
theorem dX11_init_37 : decode cX11_init 37 = .ok (.aload_n 0, 1) := by decide +kernel
theorem dX11_init_38 : decode cX11_init 38 = .ok (.new 30, 3) := by decide +kernel
theorem dX11_init_41 : decode cX11_init 41 = .ok (.dup, 1) := by decide +kernel
theorem dX11_init_42 : decode cX11_init 42 = .ok (.aload_n 0, 1) := by decide +kernel
theorem dX11_init_43 : decode cX11_init 43 = .ok (.getfield 19, 3) := by decide +kernel
theorem dX11_init_46 : decode cX11_init 46 = .ok (.aload_n 0, 1) := by decide +kernel
theorem dX11_init_47 : decode cX11_init 47 = .ok (.getfield 26, 3) := by decide +kernel
theorem dX11_init_50 : decode cX11_init 50 = .ok (.invokespecial 32, 3) := by decide +kernel
theorem dX11_init_53 : decode cX11_init 53 = .ok (.putfield 35, 3) := by decide +kernel
theorem dX11_init_56 : decode cX11_init 56 = .ok (.aload_n 0, 1) := by decide +kernel
theorem dX11_init_57 : decode cX11_init 57 = .ok (.new 39, 3) := by decide +kernel
theorem dX11_init_60 : decode cX11_init 60 = .ok (.dup, 1) := by decide +kernel
theorem dX11_init_61 : decode cX11_init 61 = .ok (.aload_n 0, 1) := by decide +kernel
theorem dX11_init_62 : decode cX11_init 62 = .ok (.getfield 10, 3) := by decide +kernel
theorem dX11_init_65 : decode cX11_init 65 = .ok (.invokespecial 41, 3) := by decide +kernel
theorem dX11_init_68 : decode cX11_init 68 = .ok (.putfield 44, 3) := by decide +kernel
theorem dX11_init_71 : decode cX11_init 71 = .ok (.aload_n 0, 1) := by decide +kernel
theorem dX11_init_72 : decode cX11_init 72 = .ok (.new 48, 3) := by decide +kernel
theorem dX11_init_75 : decode cX11_init 75 = .ok (.dup, 1) := by decide +kernel
theorem dX11_init_76 : decode cX11_init 76 = .ok (.aload_n 0, 1) := by decide +kernel
theorem dX11_init_77 : decode cX11_init 77 = .ok (.getfield 10, 3) := by decide +kernel
theorem dX11_init_80 : decode cX11_init 80 = .ok (.aload_n 0, 1) := by decide +kernel
theorem dX11_init_81 : decode cX11_init 81 = .ok (.getfield 19, 3) := by decide +kernel
theorem dX11_init_84 : decode cX11_init 84 = .ok (.aload_n 0, 1) := by decide +kernel
theorem dX11_init_85 : decode cX11_init 85 = .ok (.getfield 26, 3) := by decide +kernel
theorem dX11_init_88 : decode cX11_init 88 = .ok (.invokespecial 50, 3) := by decide +kernel
theorem dX11_init_91 : decode cX11_init 91 = .ok (.putfield 53, 3) := by decide +kernel
theorem dX11_init_94 : decode cX11_init 94 = .ok (.aload_n 0, 1) := by decide +kernel
theorem dX11_init_95 : decode cX11_init 95 = .ok (.new 57, 3) := by decide +kernel
theorem dX11_init_98 : decode cX11_init 98 = .ok (.dup, 1) := by decide +kernel
theorem dX11_init_99 : decode cX11_init 99 = .ok (.aload_n 0, 1) := by decide +kernel
theorem dX11_init_100 : decode cX11_init 100 = .ok (.getfield 19, 3) := by decide +kernel
theorem dX11_init_103 : decode cX11_init 103 = .ok (.aload_n 0, 1) := by decide +kernel
theorem dX11_init_104 : decode cX11_init 104 = .ok (.getfield 26, 3) := by decide +kernel
theorem dX11_init_107 : decode cX11_init 107 = .ok (.invokespecial 59, 3) := by decide +kernel
theorem dX11_init_110 : decode cX11_init 110 = .ok (.putfield 60, 3) := by decide +kernel
theorem dX11_init_113 : decode cX11_init 113 = .ok (.aload_n 0, 1) := by decide +kernel
theorem dX11_init_114 : decode cX11_init 114 = .ok (.new 64, 3) := by decide +kernel
theorem dX11_init_117 : decode cX11_init 117 = .ok (.dup, 1) := by decide +kernel
theorem dX11_init_118 : decode cX11_init 118 = .ok (.aload_n 0, 1) := by decide +kernel
theorem dX11_init_119 : decode cX11_init 119 = .ok (.getfield 19, 3) := by decide +kernel
theorem dX11_init_122 : decode cX11_init 122 = .ok (.invokespecial 66, 3) := by decide +kernel
theorem dX11_init_125 : decode cX11_init 125 = .ok (.putfield 69, 3) := by decide +kernel
theorem dX11_init_128 : decode cX11_init 128 = .ok (.aload_n 0, 1) := by decide +kernel
theorem dX11_init_129 : decode cX11_init 129 = .ok (.new 73, 3) := by decide +kernel
theorem dX11_init_132 : decode cX11_init 132 = .ok (.dup, 1) := by decide +kernel
theorem dX11_init_133 : decode cX11_init 133 = .ok (.aload_n 0, 1) := by decide +kernel
theorem dX11_init_134 : decode cX11_init 134 = .ok (.getfield 19, 3) := by decide +kernel
theorem dX11_init_137 : decode cX11_init 137 = .ok (.aload_n 0, 1) := by decide +kernel
theorem dX11_init_138 : decode cX11_init 138 = .ok (.getfield 69, 3) := by decide +kernel
theorem dX11_init_141 : decode cX11_init 141 = .ok (.invokespecial 75, 3) := by decide +kernel
theorem dX11_init_144 : decode cX11_init 144 = .ok (.putfield 78, 3) := by decide +kernel
theorem dX11_init_147 : decode cX11_init 147 = .ok (.aload_n 0, 1) := by decide +kernel
theorem dX11_init_148 : decode cX11_init 148 = .ok (.new 82, 3) := by decide +kernel
theorem dX11_init_151 : decode cX11_init 151 = .ok (.dup, 1) := by decide +kernel
theorem dX11_init_152 : decode cX11_init 152 = .ok (.aload_n 0, 1) := by decide +kernel
theorem dX11_init_153 : decode cX11_init 153 = .ok (.getfield 19, 3) := by decide +kernel
theorem dX11_init_156 : decode cX11_init 156 = .ok (.aload_n 0, 1) := by decide +kernel
theorem dX11_init_157 : decode cX11_init 157 = .ok (.getfield 26, 3) := by decide +kernel
theorem dX11_init_160 : decode cX11_init 160 = .ok (.aload_n 0, 1) := by decide +kernel
theorem dX11_init_161 : decode cX11_init 161 = .ok (.getfield 60, 3) := by decide +kernel
theorem dX11_init_164 : decode cX11_init 164 = .ok (.invokespecial 84, 3) := by decide +kernel
theorem dX11_init_167 : decode cX11_init 167 = .ok (.putfield 87, 3) := by decide +kernel
theorem dX11_init_170 : decode cX11_init 170 = .ok (.return_, 1) := by decide +kernel
theorem dX11_feed_0 : decode cX11_feed 0 = .ok (.aload_n 0, 1) := by decide +kernel
theorem dX11_feed_1 : decode cX11_feed 1 = .ok (.getfield 10, 3) := by decide +kernel
theorem dX11_feed_4 : decode cX11_feed 4 = .ok (.getfield 91, 3) := by decide +kernel
theorem dX11_feed_7 : decode cX11_feed 7 = .ok (.sipush 680, 3) := by decide +kernel
theorem dX11_feed_10 : decode cX11_feed 10 = .ok (.if_icmp .le 5, 3) := by decide +kernel
theorem dX11_feed_13 : decode cX11_feed 13 = .ok (.iconst (-1), 1) := by decide +kernel
theorem dX11_feed_14 : decode cX11_feed 14 = .ok (.ireturn, 1) := by decide +kernel
theorem dX11_feed_15 : decode cX11_feed 15 = .ok (.aload_n 0, 1) := by decide +kernel
theorem dX11_feed_16 : decode cX11_feed 16 = .ok (.getfield 10, 3) := by decide +kernel
theorem dX11_feed_19 : decode cX11_feed 19 = .ok (.iload_n 1, 1) := by decide +kernel
theorem dX11_feed_20 : decode cX11_feed 20 = .ok (.invokevirtual 95, 3) := by decide +kernel
theorem dX11_feed_23 : decode cX11_feed 23 = .ok (.aload_n 0, 1) := by decide +kernel
theorem dX11_feed_24 : decode cX11_feed 24 = .ok (.getfield 10, 3) := by decide +kernel
theorem dX11_feed_27 : decode cX11_feed 27 = .ok (.iload_n 2, 1) := by decide +kernel
theorem dX11_feed_28 : decode cX11_feed 28 = .ok (.invokevirtual 95, 3) := by decide +kernel
theorem dX11_feed_31 : decode cX11_feed 31 = .ok (.aload_n 0, 1) := by decide +kernel
theorem dX11_feed_32 : decode cX11_feed 32 = .ok (.getfield 10, 3) := by decide +kernel
theorem dX11_feed_35 : decode cX11_feed 35 = .ok (.iload_n 3, 1) := by decide +kernel
theorem dX11_feed_36 : decode cX11_feed 36 = .ok (.invokevirtual 95, 3) := by decide +kernel
theorem dX11_feed_39 : decode cX11_feed 39 = .ok (.aload_n 0, 1) := by decide +kernel
theorem dX11_feed_40 : decode cX11_feed 40 = .ok (.getfield 10, 3) := by decide +kernel
theorem dX11_feed_43 : decode cX11_feed 43 = .ok (.iload 4, 2) := by decide +kernel
theorem dX11_feed_45 : decode cX11_feed 45 = .ok (.invokevirtual 95, 3) := by decide +kernel
theorem dX11_feed_48 : decode cX11_feed 48 = .ok (.aload_n 0, 1) := by decide +kernel
theorem dX11_feed_49 : decode cX11_feed 49 = .ok (.getfield 10, 3) := by decide +kernel
theorem dX11_feed_52 : decode cX11_feed 52 = .ok (.iload 5, 2) := by decide +kernel
theorem dX11_feed_54 : decode cX11_feed 54 = .ok (.invokevirtual 95, 3) := by decide +kernel
theorem dX11_feed_57 : decode cX11_feed 57 = .ok (.aload_n 0, 1) := by decide +kernel
theorem dX11_feed_58 : decode cX11_feed 58 = .ok (.getfield 10, 3) := by decide +kernel
theorem dX11_feed_61 : decode cX11_feed 61 = .ok (.getfield 91, 3) := by decide +kernel
theorem dX11_feed_64 : decode cX11_feed 64 = .ok (.ireturn, 1) := by decide +kernel
theorem dX11_end_0 : decode cX11_end 0 = .ok (.iload_n 1, 1) := by decide +kernel
theorem dX11_end_1 : decode cX11_end 1 = .ok (.ifCond .lt 14, 3) := by decide +kernel
theorem dX11_end_4 : decode cX11_end 4 = .ok (.iload_n 1, 1) := by decide +kernel
theorem dX11_end_5 : decode cX11_end 5 = .ok (.aload_n 0, 1) := by decide +kernel
theorem dX11_end_6 : decode cX11_end 6 = .ok (.getfield 10, 3) := by decide +kernel
theorem dX11_end_9 : decode cX11_end 9 = .ok (.getfield 91, 3) := by decide +kernel
theorem dX11_end_12 : decode cX11_end 12 = .ok (.if_icmp .le 5, 3) := by decide +kernel
theorem dX11_end_15 : decode cX11_end 15 = .ok (.iconst 0, 1) := by decide +kernel
theorem dX11_end_16 : decode cX11_end 16 = .ok (.ireturn, 1) := by decide +kernel
theorem dX11_end_17 : decode cX11_end 17 = .ok (.aload_n 0, 1) := by decide +kernel
theorem dX11_end_18 : decode cX11_end 18 = .ok (.getfield 10, 3) := by decide +kernel
theorem dX11_end_21 : decode cX11_end 21 = .ok (.iload_n 1, 1) := by decide +kernel
theorem dX11_end_22 : decode cX11_end 22 = .ok (.putfield 91, 3) := by decide +kernel
theorem dX11_end_25 : decode cX11_end 25 = .ok (.iconst 1, 1) := by decide +kernel
theorem dX11_end_26 : decode cX11_end 26 = .ok (.ireturn, 1) := by decide +kernel
theorem dX11_pyramid_0 : decode cX11_pyramid 0 = .ok (.aload_n 0, 1) := by decide +kernel
theorem dX11_pyramid_1 : decode cX11_pyramid 1 = .ok (.getfield 44, 3) := by decide +kernel
theorem dX11_pyramid_4 : decode cX11_pyramid 4 = .ok (.invokevirtual 99, 3) := by decide +kernel
theorem dX11_pyramid_7 : decode cX11_pyramid 7 = .ok (.istore_n 1, 1) := by decide +kernel
theorem dX11_pyramid_8 : decode cX11_pyramid 8 = .ok (.aload_n 0, 1) := by decide +kernel
theorem dX11_pyramid_9 : decode cX11_pyramid 9 = .ok (.getfield 10, 3) := by decide +kernel
theorem dX11_pyramid_12 : decode cX11_pyramid 12 = .ok (.iconst 0, 1) := by decide +kernel
theorem dX11_pyramid_13 : decode cX11_pyramid 13 = .ok (.putfield 91, 3) := by decide +kernel
theorem dX11_pyramid_16 : decode cX11_pyramid 16 = .ok (.iload_n 1, 1) := by decide +kernel
theorem dX11_pyramid_17 : decode cX11_pyramid 17 = .ok (.ifCond .ne 5, 3) := by decide +kernel
theorem dX11_pyramid_20 : decode cX11_pyramid 20 = .ok (.iconst (-1), 1) := by decide +kernel
theorem dX11_pyramid_21 : decode cX11_pyramid 21 = .ok (.ireturn, 1) := by decide +kernel
theorem dX11_pyramid_22 : decode cX11_pyramid 22 = .ok (.aload_n 0, 1) := by decide +kernel
theorem dX11_pyramid_23 : decode cX11_pyramid 23 = .ok (.getfield 19, 3) := by decide +kernel
theorem dX11_pyramid_26 : decode cX11_pyramid 26 = .ok (.aload_n 0, 1) := by decide +kernel
theorem dX11_pyramid_27 : decode cX11_pyramid 27 = .ok (.getfield 44, 3) := by decide +kernel
theorem dX11_pyramid_30 : decode cX11_pyramid 30 = .ok (.getfield 103, 3) := by decide +kernel
theorem dX11_pyramid_33 : decode cX11_pyramid 33 = .ok (.invokevirtual 106, 3) := by decide +kernel
theorem dX11_pyramid_36 : decode cX11_pyramid 36 = .ok (.aload_n 0, 1) := by decide +kernel
theorem dX11_pyramid_37 : decode cX11_pyramid 37 = .ok (.getfield 69, 3) := by decide +kernel
theorem dX11_pyramid_40 : decode cX11_pyramid 40 = .ok (.invokevirtual 109, 3) := by decide +kernel
theorem dX11_pyramid_43 : decode cX11_pyramid 43 = .ok (.aload_n 0, 1) := by decide +kernel
theorem dX11_pyramid_44 : decode cX11_pyramid 44 = .ok (.getfield 78, 3) := by decide +kernel
theorem dX11_pyramid_47 : decode cX11_pyramid 47 = .ok (.invokevirtual 112, 3) := by decide +kernel
theorem dX11_pyramid_50 : decode cX11_pyramid 50 = .ok (.aload_n 0, 1) := by decide +kernel
theorem dX11_pyramid_51 : decode cX11_pyramid 51 = .ok (.getfield 26, 3) := by decide +kernel
theorem dX11_pyramid_54 : decode cX11_pyramid 54 = .ok (.invokevirtual 115, 3) := by decide +kernel
theorem dX11_pyramid_57 : decode cX11_pyramid 57 = .ok (.aload_n 0, 1) := by decide +kernel
theorem dX11_pyramid_58 : decode cX11_pyramid 58 = .ok (.getfield 26, 3) := by decide +kernel
theorem dX11_pyramid_61 : decode cX11_pyramid 61 = .ok (.iconst 0, 1) := by decide +kernel
theorem dX11_pyramid_62 : decode cX11_pyramid 62 = .ok (.putfield 118, 3) := by decide +kernel
theorem dX11_pyramid_65 : decode cX11_pyramid 65 = .ok (.aload_n 0, 1) := by decide +kernel
theorem dX11_pyramid_66 : decode cX11_pyramid 66 = .ok (.getfield 35, 3) := by decide +kernel
theorem dX11_pyramid_69 : decode cX11_pyramid 69 = .ok (.iconst 0, 1) := by decide +kernel
theorem dX11_pyramid_70 : decode cX11_pyramid 70 = .ok (.putfield 121, 3) := by decide +kernel
theorem dX11_pyramid_73 : decode cX11_pyramid 73 = .ok (.aload_n 0, 1) := by decide +kernel
theorem dX11_pyramid_74 : decode cX11_pyramid 74 = .ok (.getfield 19, 3) := by decide +kernel
theorem dX11_pyramid_77 : decode cX11_pyramid 77 = .ok (.getfield 124, 3) := by decide +kernel
theorem dX11_pyramid_80 : decode cX11_pyramid 80 = .ok (.ireturn, 1) := by decide +kernel
theorem dX11_day_0 : decode cX11_day 0 = .ok (.aload_n 0, 1) := by decide +kernel
theorem dX11_day_1 : decode cX11_day 1 = .ok (.getfield 26, 3) := by decide +kernel
theorem dX11_day_4 : decode cX11_day 4 = .ok (.getfield 127, 3) := by decide +kernel
theorem dX11_day_7 : decode cX11_day 7 = .ok (.istore_n 1, 1) := by decide +kernel
theorem dX11_day_8 : decode cX11_day 8 = .ok (.aload_n 0, 1) := by decide +kernel
theorem dX11_day_9 : decode cX11_day 9 = .ok (.getfield 53, 3) := by decide +kernel
theorem dX11_day_12 : decode cX11_day 12 = .ok (.invokevirtual 128, 3) := by decide +kernel
theorem dX11_day_15 : decode cX11_day 15 = .ok (.istore_n 2, 1) := by decide +kernel
theorem dX11_day_16 : decode cX11_day 16 = .ok (.aload_n 0, 1) := by decide +kernel
theorem dX11_day_17 : decode cX11_day 17 = .ok (.getfield 10, 3) := by decide +kernel
theorem dX11_day_20 : decode cX11_day 20 = .ok (.iconst 0, 1) := by decide +kernel
theorem dX11_day_21 : decode cX11_day 21 = .ok (.putfield 91, 3) := by decide +kernel
theorem dX11_day_24 : decode cX11_day 24 = .ok (.iload_n 2, 1) := by decide +kernel
theorem dX11_day_25 : decode cX11_day 25 = .ok (.ifCond .ne 13, 3) := by decide +kernel
theorem dX11_day_28 : decode cX11_day 28 = .ok (.aload_n 0, 1) := by decide +kernel
theorem dX11_day_29 : decode cX11_day 29 = .ok (.getfield 26, 3) := by decide +kernel
theorem dX11_day_32 : decode cX11_day 32 = .ok (.iload_n 1, 1) := by decide +kernel
theorem dX11_day_33 : decode cX11_day 33 = .ok (.invokevirtual 129, 3) := by decide +kernel
theorem dX11_day_36 : decode cX11_day 36 = .ok (.iconst (-1), 1) := by decide +kernel
theorem dX11_day_37 : decode cX11_day 37 = .ok (.ireturn, 1) := by decide +kernel
theorem dX11_day_38 : decode cX11_day 38 = .ok (.aload_n 0, 1) := by decide +kernel
theorem dX11_day_39 : decode cX11_day 39 = .ok (.getfield 26, 3) := by decide +kernel
theorem dX11_day_42 : decode cX11_day 42 = .ok (.getfield 127, 3) := by decide +kernel
theorem dX11_day_45 : decode cX11_day 45 = .ok (.iload_n 1, 1) := by decide +kernel
theorem dX11_day_46 : decode cX11_day 46 = .ok (.isub, 1) := by decide +kernel
theorem dX11_day_47 : decode cX11_day 47 = .ok (.istore_n 3, 1) := by decide +kernel
theorem dX11_day_48 : decode cX11_day 48 = .ok (.iload_n 3, 1) := by decide +kernel
theorem dX11_day_49 : decode cX11_day 49 = .ok (.ifCond .le 13, 3) := by decide +kernel
theorem dX11_day_52 : decode cX11_day 52 = .ok (.aload_n 0, 1) := by decide +kernel
theorem dX11_day_53 : decode cX11_day 53 = .ok (.getfield 35, 3) := by decide +kernel
theorem dX11_day_56 : decode cX11_day 56 = .ok (.iconst 0, 1) := by decide +kernel
theorem dX11_day_57 : decode cX11_day 57 = .ok (.iconst (-1), 1) := by decide +kernel
theorem dX11_day_58 : decode cX11_day 58 = .ok (.iload_n 1, 1) := by decide +kernel
theorem dX11_day_59 : decode cX11_day 59 = .ok (.invokevirtual 132, 3) := by decide +kernel
theorem dX11_day_62 : decode cX11_day 62 = .ok (.iload_n 3, 1) := by decide +kernel
theorem dX11_day_63 : decode cX11_day 63 = .ok (.ireturn, 1) := by decide +kernel
theorem dX11_fault_0 : decode cX11_fault 0 = .ok (.iload_n 1, 1) := by decide +kernel
theorem dX11_fault_1 : decode cX11_fault 1 = .ok (.lookupswitch 43 #[(0, 27), (1, 35)], 27) := by decide +kernel
theorem dX11_fault_28 : decode cX11_fault 28 = .ok (.aload_n 0, 1) := by decide +kernel
theorem dX11_fault_29 : decode cX11_fault 29 = .ok (.getfield 10, 3) := by decide +kernel
theorem dX11_fault_32 : decode cX11_fault 32 = .ok (.getfield 136, 3) := by decide +kernel
theorem dX11_fault_35 : decode cX11_fault 35 = .ok (.ireturn, 1) := by decide +kernel
theorem dX11_fault_36 : decode cX11_fault 36 = .ok (.aload_n 0, 1) := by decide +kernel
theorem dX11_fault_37 : decode cX11_fault 37 = .ok (.getfield 10, 3) := by decide +kernel
theorem dX11_fault_40 : decode cX11_fault 40 = .ok (.getfield 139, 3) := by decide +kernel
theorem dX11_fault_43 : decode cX11_fault 43 = .ok (.ireturn, 1) := by decide +kernel
theorem dX11_fault_44 : decode cX11_fault 44 = .ok (.iconst (-1), 1) := by decide +kernel
theorem dX11_fault_45 : decode cX11_fault 45 = .ok (.ireturn, 1) := by decide +kernel
theorem dX11_named_0 : decode cX11_named 0 = .ok (.aload_n 0, 1) := by decide +kernel
theorem dX11_named_1 : decode cX11_named 1 = .ok (.getfield 10, 3) := by decide +kernel
theorem dX11_named_4 : decode cX11_named 4 = .ok (.invokevirtual 142, 3) := by decide +kernel
theorem dX11_named_7 : decode cX11_named 7 = .ok (.aload_n 0, 1) := by decide +kernel
theorem dX11_named_8 : decode cX11_named 8 = .ok (.getfield 10, 3) := by decide +kernel
theorem dX11_named_11 : decode cX11_named 11 = .ok (.invokevirtual 145, 3) := by decide +kernel
theorem dX11_named_14 : decode cX11_named 14 = .ok (.aload_n 0, 1) := by decide +kernel
theorem dX11_named_15 : decode cX11_named 15 = .ok (.getfield 10, 3) := by decide +kernel
theorem dX11_named_18 : decode cX11_named 18 = .ok (.getfield 148, 3) := by decide +kernel
theorem dX11_named_21 : decode cX11_named 21 = .ok (.iconst 1, 1) := by decide +kernel
theorem dX11_named_22 : decode cX11_named 22 = .ok (.if_icmp .ne 7, 3) := by decide +kernel
theorem dX11_named_25 : decode cX11_named 25 = .ok (.iconst 1, 1) := by decide +kernel
theorem dX11_named_26 : decode cX11_named 26 = .ok (.goto 4, 3) := by decide +kernel
theorem dX11_named_29 : decode cX11_named 29 = .ok (.iconst 0, 1) := by decide +kernel
theorem dX11_named_30 : decode cX11_named 30 = .ok (.istore_n 1, 1) := by decide +kernel
theorem dX11_named_31 : decode cX11_named 31 = .ok (.aload_n 0, 1) := by decide +kernel
theorem dX11_named_32 : decode cX11_named 32 = .ok (.getfield 10, 3) := by decide +kernel
theorem dX11_named_35 : decode cX11_named 35 = .ok (.getfield 151, 3) := by decide +kernel
theorem dX11_named_38 : decode cX11_named 38 = .ok (.lstore_n 2, 1) := by decide +kernel
theorem dX11_named_39 : decode cX11_named 39 = .ok (.aload_n 0, 1) := by decide +kernel
theorem dX11_named_40 : decode cX11_named 40 = .ok (.getfield 10, 3) := by decide +kernel
theorem dX11_named_43 : decode cX11_named 43 = .ok (.invokevirtual 145, 3) := by decide +kernel
theorem dX11_named_46 : decode cX11_named 46 = .ok (.iload_n 1, 1) := by decide +kernel
theorem dX11_named_47 : decode cX11_named 47 = .ok (.ifCond .eq 17, 3) := by decide +kernel
theorem dX11_named_50 : decode cX11_named 50 = .ok (.aload_n 0, 1) := by decide +kernel
theorem dX11_named_51 : decode cX11_named 51 = .ok (.getfield 10, 3) := by decide +kernel
theorem dX11_named_54 : decode cX11_named 54 = .ok (.getfield 148, 3) := by decide +kernel
theorem dX11_named_57 : decode cX11_named 57 = .ok (.ifCond .ne 7, 3) := by decide +kernel
theorem dX11_named_60 : decode cX11_named 60 = .ok (.iconst 1, 1) := by decide +kernel
theorem dX11_named_61 : decode cX11_named 61 = .ok (.goto 4, 3) := by decide +kernel
theorem dX11_named_64 : decode cX11_named 64 = .ok (.iconst 0, 1) := by decide +kernel
theorem dX11_named_65 : decode cX11_named 65 = .ok (.istore 4, 2) := by decide +kernel
theorem dX11_named_67 : decode cX11_named 67 = .ok (.aload_n 0, 1) := by decide +kernel
theorem dX11_named_68 : decode cX11_named 68 = .ok (.getfield 10, 3) := by decide +kernel
theorem dX11_named_71 : decode cX11_named 71 = .ok (.iconst 0, 1) := by decide +kernel
theorem dX11_named_72 : decode cX11_named 72 = .ok (.putfield 91, 3) := by decide +kernel
theorem dX11_named_75 : decode cX11_named 75 = .ok (.iload 4, 2) := by decide +kernel
theorem dX11_named_77 : decode cX11_named 77 = .ok (.ifCond .eq 14, 3) := by decide +kernel
theorem dX11_named_80 : decode cX11_named 80 = .ok (.aload_n 0, 1) := by decide +kernel
theorem dX11_named_81 : decode cX11_named 81 = .ok (.getfield 19, 3) := by decide +kernel
theorem dX11_named_84 : decode cX11_named 84 = .ok (.lload_n 2, 1) := by decide +kernel
theorem dX11_named_85 : decode cX11_named 85 = .ok (.invokevirtual 155, 3) := by decide +kernel
theorem dX11_named_88 : decode cX11_named 88 = .ok (.goto 4, 3) := by decide +kernel
theorem dX11_named_91 : decode cX11_named 91 = .ok (.iconst (-1), 1) := by decide +kernel
theorem dX11_named_92 : decode cX11_named 92 = .ok (.ireturn, 1) := by decide +kernel
theorem dX11_resign_0 : decode cX11_resign 0 = .ok (.aload_n 0, 1) := by decide +kernel
theorem dX11_resign_1 : decode cX11_resign 1 = .ok (.getfield 19, 3) := by decide +kernel
theorem dX11_resign_4 : decode cX11_resign 4 = .ok (.iload_n 1, 1) := by decide +kernel
theorem dX11_resign_5 : decode cX11_resign 5 = .ok (.invokevirtual 159, 3) := by decide +kernel
theorem dX11_resign_8 : decode cX11_resign 8 = .ok (.ifCond .eq 15, 3) := by decide +kernel
theorem dX11_resign_11 : decode cX11_resign 11 = .ok (.aload_n 0, 1) := by decide +kernel
theorem dX11_resign_12 : decode cX11_resign 12 = .ok (.getfield 26, 3) := by decide +kernel
theorem dX11_resign_15 : decode cX11_resign 15 = .ok (.getfield 163, 3) := by decide +kernel
theorem dX11_resign_18 : decode cX11_resign 18 = .ok (.iload_n 1, 1) := by decide +kernel
theorem dX11_resign_19 : decode cX11_resign 19 = .ok (.iaload, 1) := by decide +kernel
theorem dX11_resign_20 : decode cX11_resign 20 = .ok (.ifCond .eq 5, 3) := by decide +kernel
theorem dX11_resign_23 : decode cX11_resign 23 = .ok (.iconst 0, 1) := by decide +kernel
theorem dX11_resign_24 : decode cX11_resign 24 = .ok (.ireturn, 1) := by decide +kernel
theorem dX11_resign_25 : decode cX11_resign 25 = .ok (.aload_n 0, 1) := by decide +kernel
theorem dX11_resign_26 : decode cX11_resign 26 = .ok (.getfield 26, 3) := by decide +kernel
theorem dX11_resign_29 : decode cX11_resign 29 = .ok (.getfield 163, 3) := by decide +kernel
theorem dX11_resign_32 : decode cX11_resign 32 = .ok (.iload_n 1, 1) := by decide +kernel
theorem dX11_resign_33 : decode cX11_resign 33 = .ok (.iconst 1, 1) := by decide +kernel
theorem dX11_resign_34 : decode cX11_resign 34 = .ok (.iastore, 1) := by decide +kernel
theorem dX11_resign_35 : decode cX11_resign 35 = .ok (.aload_n 0, 1) := by decide +kernel
theorem dX11_resign_36 : decode cX11_resign 36 = .ok (.getfield 35, 3) := by decide +kernel
theorem dX11_resign_39 : decode cX11_resign 39 = .ok (.iconst 1, 1) := by decide +kernel
theorem dX11_resign_40 : decode cX11_resign 40 = .ok (.iload_n 1, 1) := by decide +kernel
theorem dX11_resign_41 : decode cX11_resign 41 = .ok (.iconst 0, 1) := by decide +kernel
theorem dX11_resign_42 : decode cX11_resign 42 = .ok (.invokevirtual 132, 3) := by decide +kernel
theorem dX11_resign_45 : decode cX11_resign 45 = .ok (.iconst 1, 1) := by decide +kernel
theorem dX11_resign_46 : decode cX11_resign 46 = .ok (.ireturn, 1) := by decide +kernel
theorem dX11_refuse_0 : decode cX11_refuse 0 = .ok (.aload_n 0, 1) := by decide +kernel
theorem dX11_refuse_1 : decode cX11_refuse 1 = .ok (.getfield 19, 3) := by decide +kernel
theorem dX11_refuse_4 : decode cX11_refuse 4 = .ok (.iload_n 1, 1) := by decide +kernel
theorem dX11_refuse_5 : decode cX11_refuse 5 = .ok (.invokevirtual 159, 3) := by decide +kernel
theorem dX11_refuse_8 : decode cX11_refuse 8 = .ok (.ifCond .eq 15, 3) := by decide +kernel
theorem dX11_refuse_11 : decode cX11_refuse 11 = .ok (.aload_n 0, 1) := by decide +kernel
theorem dX11_refuse_12 : decode cX11_refuse 12 = .ok (.getfield 26, 3) := by decide +kernel
theorem dX11_refuse_15 : decode cX11_refuse 15 = .ok (.getfield 167, 3) := by decide +kernel
theorem dX11_refuse_18 : decode cX11_refuse 18 = .ok (.iload_n 1, 1) := by decide +kernel
theorem dX11_refuse_19 : decode cX11_refuse 19 = .ok (.iaload, 1) := by decide +kernel
theorem dX11_refuse_20 : decode cX11_refuse 20 = .ok (.ifCond .eq 5, 3) := by decide +kernel
theorem dX11_refuse_23 : decode cX11_refuse 23 = .ok (.iconst 0, 1) := by decide +kernel
theorem dX11_refuse_24 : decode cX11_refuse 24 = .ok (.ireturn, 1) := by decide +kernel
theorem dX11_refuse_25 : decode cX11_refuse 25 = .ok (.aload_n 0, 1) := by decide +kernel
theorem dX11_refuse_26 : decode cX11_refuse 26 = .ok (.getfield 26, 3) := by decide +kernel
theorem dX11_refuse_29 : decode cX11_refuse 29 = .ok (.getfield 167, 3) := by decide +kernel
theorem dX11_refuse_32 : decode cX11_refuse 32 = .ok (.iload_n 1, 1) := by decide +kernel
theorem dX11_refuse_33 : decode cX11_refuse 33 = .ok (.iconst 1, 1) := by decide +kernel
theorem dX11_refuse_34 : decode cX11_refuse 34 = .ok (.iastore, 1) := by decide +kernel
theorem dX11_refuse_35 : decode cX11_refuse 35 = .ok (.aload_n 0, 1) := by decide +kernel
theorem dX11_refuse_36 : decode cX11_refuse 36 = .ok (.getfield 35, 3) := by decide +kernel
theorem dX11_refuse_39 : decode cX11_refuse 39 = .ok (.iconst 2, 1) := by decide +kernel
theorem dX11_refuse_40 : decode cX11_refuse 40 = .ok (.iload_n 1, 1) := by decide +kernel
theorem dX11_refuse_41 : decode cX11_refuse 41 = .ok (.iconst 0, 1) := by decide +kernel
theorem dX11_refuse_42 : decode cX11_refuse 42 = .ok (.invokevirtual 132, 3) := by decide +kernel
theorem dX11_refuse_45 : decode cX11_refuse 45 = .ok (.iconst 1, 1) := by decide +kernel
theorem dX11_refuse_46 : decode cX11_refuse 46 = .ok (.ireturn, 1) := by decide +kernel
theorem dX11_deduct_0 : decode cX11_deduct 0 = .ok (.aload_n 0, 1) := by decide +kernel
theorem dX11_deduct_1 : decode cX11_deduct 1 = .ok (.getfield 19, 3) := by decide +kernel
theorem dX11_deduct_4 : decode cX11_deduct 4 = .ok (.iload_n 1, 1) := by decide +kernel
theorem dX11_deduct_5 : decode cX11_deduct 5 = .ok (.invokevirtual 159, 3) := by decide +kernel
theorem dX11_deduct_8 : decode cX11_deduct 8 = .ok (.ifCond .eq 31, 3) := by decide +kernel
theorem dX11_deduct_11 : decode cX11_deduct 11 = .ok (.iload_n 2, 1) := by decide +kernel
theorem dX11_deduct_12 : decode cX11_deduct 12 = .ok (.iconst 1, 1) := by decide +kernel
theorem dX11_deduct_13 : decode cX11_deduct 13 = .ok (.if_icmp .lt 26, 3) := by decide +kernel
theorem dX11_deduct_16 : decode cX11_deduct 16 = .ok (.iload_n 2, 1) := by decide +kernel
theorem dX11_deduct_17 : decode cX11_deduct 17 = .ok (.bipush 99, 2) := by decide +kernel
theorem dX11_deduct_19 : decode cX11_deduct 19 = .ok (.if_icmp .gt 20, 3) := by decide +kernel
theorem dX11_deduct_22 : decode cX11_deduct 22 = .ok (.aload_n 0, 1) := by decide +kernel
theorem dX11_deduct_23 : decode cX11_deduct 23 = .ok (.getfield 26, 3) := by decide +kernel
theorem dX11_deduct_26 : decode cX11_deduct 26 = .ok (.getfield 170, 3) := by decide +kernel
theorem dX11_deduct_29 : decode cX11_deduct 29 = .ok (.iload_n 1, 1) := by decide +kernel
theorem dX11_deduct_30 : decode cX11_deduct 30 = .ok (.iaload, 1) := by decide +kernel
theorem dX11_deduct_31 : decode cX11_deduct 31 = .ok (.iload_n 2, 1) := by decide +kernel
theorem dX11_deduct_32 : decode cX11_deduct 32 = .ok (.iadd, 1) := by decide +kernel
theorem dX11_deduct_33 : decode cX11_deduct 33 = .ok (.sipush 999, 3) := by decide +kernel
theorem dX11_deduct_36 : decode cX11_deduct 36 = .ok (.if_icmp .le 5, 3) := by decide +kernel
theorem dX11_deduct_39 : decode cX11_deduct 39 = .ok (.iconst 0, 1) := by decide +kernel
theorem dX11_deduct_40 : decode cX11_deduct 40 = .ok (.ireturn, 1) := by decide +kernel
theorem dX11_deduct_41 : decode cX11_deduct 41 = .ok (.aload_n 0, 1) := by decide +kernel
theorem dX11_deduct_42 : decode cX11_deduct 42 = .ok (.getfield 26, 3) := by decide +kernel
theorem dX11_deduct_45 : decode cX11_deduct 45 = .ok (.getfield 170, 3) := by decide +kernel
theorem dX11_deduct_48 : decode cX11_deduct 48 = .ok (.iload_n 1, 1) := by decide +kernel
theorem dX11_deduct_49 : decode cX11_deduct 49 = .ok (.dup2, 1) := by decide +kernel
theorem dX11_deduct_50 : decode cX11_deduct 50 = .ok (.iaload, 1) := by decide +kernel
theorem dX11_deduct_51 : decode cX11_deduct 51 = .ok (.iload_n 2, 1) := by decide +kernel
theorem dX11_deduct_52 : decode cX11_deduct 52 = .ok (.iadd, 1) := by decide +kernel
theorem dX11_deduct_53 : decode cX11_deduct 53 = .ok (.iastore, 1) := by decide +kernel
theorem dX11_deduct_54 : decode cX11_deduct 54 = .ok (.aload_n 0, 1) := by decide +kernel
theorem dX11_deduct_55 : decode cX11_deduct 55 = .ok (.getfield 35, 3) := by decide +kernel
theorem dX11_deduct_58 : decode cX11_deduct 58 = .ok (.iconst 3, 1) := by decide +kernel
theorem dX11_deduct_59 : decode cX11_deduct 59 = .ok (.iload_n 1, 1) := by decide +kernel
theorem dX11_deduct_60 : decode cX11_deduct 60 = .ok (.iload_n 2, 1) := by decide +kernel
theorem dX11_deduct_61 : decode cX11_deduct 61 = .ok (.invokevirtual 132, 3) := by decide +kernel
theorem dX11_deduct_64 : decode cX11_deduct 64 = .ok (.iconst 1, 1) := by decide +kernel
theorem dX11_deduct_65 : decode cX11_deduct 65 = .ok (.ireturn, 1) := by decide +kernel
theorem dX11_grade_0 : decode cX11_grade 0 = .ok (.aload_n 0, 1) := by decide +kernel
theorem dX11_grade_1 : decode cX11_grade 1 = .ok (.getfield 19, 3) := by decide +kernel
theorem dX11_grade_4 : decode cX11_grade 4 = .ok (.iload_n 1, 1) := by decide +kernel
theorem dX11_grade_5 : decode cX11_grade 5 = .ok (.invokevirtual 173, 3) := by decide +kernel
theorem dX11_grade_8 : decode cX11_grade 8 = .ok (.ifCond .eq 17, 3) := by decide +kernel
theorem dX11_grade_11 : decode cX11_grade 11 = .ok (.aload_n 0, 1) := by decide +kernel
theorem dX11_grade_12 : decode cX11_grade 12 = .ok (.getfield 19, 3) := by decide +kernel
theorem dX11_grade_15 : decode cX11_grade 15 = .ok (.getfield 176, 3) := by decide +kernel
theorem dX11_grade_18 : decode cX11_grade 18 = .ok (.iload_n 1, 1) := by decide +kernel
theorem dX11_grade_19 : decode cX11_grade 19 = .ok (.iaload, 1) := by decide +kernel
theorem dX11_grade_20 : decode cX11_grade 20 = .ok (.bipush (-2), 2) := by decide +kernel
theorem dX11_grade_22 : decode cX11_grade 22 = .ok (.if_icmp .ne 5, 3) := by decide +kernel
theorem dX11_grade_25 : decode cX11_grade 25 = .ok (.iconst 0, 1) := by decide +kernel
theorem dX11_grade_26 : decode cX11_grade 26 = .ok (.ireturn, 1) := by decide +kernel
theorem dX11_grade_27 : decode cX11_grade 27 = .ok (.aload_n 0, 1) := by decide +kernel
theorem dX11_grade_28 : decode cX11_grade 28 = .ok (.getfield 19, 3) := by decide +kernel
theorem dX11_grade_31 : decode cX11_grade 31 = .ok (.getfield 179, 3) := by decide +kernel
theorem dX11_grade_34 : decode cX11_grade 34 = .ok (.iload_n 1, 1) := by decide +kernel
theorem dX11_grade_35 : decode cX11_grade 35 = .ok (.iaload, 1) := by decide +kernel
theorem dX11_grade_36 : decode cX11_grade 36 = .ok (.istore_n 3, 1) := by decide +kernel
theorem dX11_grade_37 : decode cX11_grade 37 = .ok (.iload_n 2, 1) := by decide +kernel
theorem dX11_grade_38 : decode cX11_grade 38 = .ok (.ifCond .lt 14, 3) := by decide +kernel
theorem dX11_grade_41 : decode cX11_grade 41 = .ok (.iload_n 2, 1) := by decide +kernel
theorem dX11_grade_42 : decode cX11_grade 42 = .ok (.bipush 9, 2) := by decide +kernel
theorem dX11_grade_44 : decode cX11_grade 44 = .ok (.if_icmp .gt 8, 3) := by decide +kernel
theorem dX11_grade_47 : decode cX11_grade 47 = .ok (.iload_n 2, 1) := by decide +kernel
theorem dX11_grade_48 : decode cX11_grade 48 = .ok (.iload_n 3, 1) := by decide +kernel
theorem dX11_grade_49 : decode cX11_grade 49 = .ok (.if_icmp .ne 5, 3) := by decide +kernel
theorem dX11_grade_52 : decode cX11_grade 52 = .ok (.iconst 0, 1) := by decide +kernel
theorem dX11_grade_53 : decode cX11_grade 53 = .ok (.ireturn, 1) := by decide +kernel
theorem dX11_grade_54 : decode cX11_grade 54 = .ok (.aload_n 0, 1) := by decide +kernel
theorem dX11_grade_55 : decode cX11_grade 55 = .ok (.getfield 19, 3) := by decide +kernel
theorem dX11_grade_58 : decode cX11_grade 58 = .ok (.getfield 179, 3) := by decide +kernel
theorem dX11_grade_61 : decode cX11_grade 61 = .ok (.iload_n 1, 1) := by decide +kernel
theorem dX11_grade_62 : decode cX11_grade 62 = .ok (.iload_n 2, 1) := by decide +kernel
theorem dX11_grade_63 : decode cX11_grade 63 = .ok (.iastore, 1) := by decide +kernel
theorem dX11_grade_64 : decode cX11_grade 64 = .ok (.aload_n 0, 1) := by decide +kernel
theorem dX11_grade_65 : decode cX11_grade 65 = .ok (.getfield 35, 3) := by decide +kernel
theorem dX11_grade_68 : decode cX11_grade 68 = .ok (.iconst 4, 1) := by decide +kernel
theorem dX11_grade_69 : decode cX11_grade 69 = .ok (.iload_n 1, 1) := by decide +kernel
theorem dX11_grade_70 : decode cX11_grade 70 = .ok (.iload_n 3, 1) := by decide +kernel
theorem dX11_grade_71 : decode cX11_grade 71 = .ok (.invokevirtual 132, 3) := by decide +kernel
theorem dX11_grade_74 : decode cX11_grade 74 = .ok (.iconst 1, 1) := by decide +kernel
theorem dX11_grade_75 : decode cX11_grade 75 = .ok (.ireturn, 1) := by decide +kernel
theorem dX11_close_0 : decode cX11_close 0 = .ok (.aload_n 0, 1) := by decide +kernel
theorem dX11_close_1 : decode cX11_close 1 = .ok (.getfield 87, 3) := by decide +kernel
theorem dX11_close_4 : decode cX11_close 4 = .ok (.invokevirtual 182, 3) := by decide +kernel
theorem dX11_close_7 : decode cX11_close 7 = .ok (.ifCond .ne 5, 3) := by decide +kernel
theorem dX11_close_10 : decode cX11_close 10 = .ok (.iconst (-1), 1) := by decide +kernel
theorem dX11_close_11 : decode cX11_close 11 = .ok (.ireturn, 1) := by decide +kernel
theorem dX11_close_12 : decode cX11_close 12 = .ok (.aload_n 0, 1) := by decide +kernel
theorem dX11_close_13 : decode cX11_close 13 = .ok (.getfield 87, 3) := by decide +kernel
theorem dX11_close_16 : decode cX11_close 16 = .ok (.invokevirtual 185, 3) := by decide +kernel
theorem dX11_close_19 : decode cX11_close 19 = .ok (.istore_n 1, 1) := by decide +kernel
theorem dX11_close_20 : decode cX11_close 20 = .ok (.aload_n 0, 1) := by decide +kernel
theorem dX11_close_21 : decode cX11_close 21 = .ok (.getfield 78, 3) := by decide +kernel
theorem dX11_close_24 : decode cX11_close 24 = .ok (.aload_n 0, 1) := by decide +kernel
theorem dX11_close_25 : decode cX11_close 25 = .ok (.getfield 87, 3) := by decide +kernel
theorem dX11_close_28 : decode cX11_close 28 = .ok (.getfield 189, 3) := by decide +kernel
theorem dX11_close_31 : decode cX11_close 31 = .ok (.invokevirtual 192, 3) := by decide +kernel
theorem dX11_close_34 : decode cX11_close 34 = .ok (.aload_n 0, 1) := by decide +kernel
theorem dX11_close_35 : decode cX11_close 35 = .ok (.getfield 87, 3) := by decide +kernel
theorem dX11_close_38 : decode cX11_close 38 = .ok (.invokevirtual 196, 3) := by decide +kernel
theorem dX11_close_41 : decode cX11_close 41 = .ok (.aload_n 0, 1) := by decide +kernel
theorem dX11_close_42 : decode cX11_close 42 = .ok (.getfield 78, 3) := by decide +kernel
theorem dX11_close_45 : decode cX11_close 45 = .ok (.invokevirtual 199, 3) := by decide +kernel
theorem dX11_close_48 : decode cX11_close 48 = .ok (.aload_n 0, 1) := by decide +kernel
theorem dX11_close_49 : decode cX11_close 49 = .ok (.getfield 26, 3) := by decide +kernel
theorem dX11_close_52 : decode cX11_close 52 = .ok (.invokevirtual 115, 3) := by decide +kernel
theorem dX11_close_55 : decode cX11_close 55 = .ok (.aload_n 0, 1) := by decide +kernel
theorem dX11_close_56 : decode cX11_close 56 = .ok (.getfield 26, 3) := by decide +kernel
