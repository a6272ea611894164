theorem dX0_ofDouble_0 : decode cX0_ofDouble 0 = .ok (.dload_n 0, 1) := by decide +kernel
theorem dX0_ofDouble_1 : decode cX0_ofDouble 1 = .ok (.dconst 0, 1) := by decide +kernel
theorem dX0_ofDouble_2 : decode cX0_ofDouble 2 = .ok (.dcmp .l, 1) := by decide +kernel
theorem dX0_ofDouble_3 : decode cX0_ofDouble 3 = .ok (.ifCond .ne 5, 3) := by decide +kernel
theorem dX0_ofDouble_6 : decode cX0_ofDouble 6 = .ok (.lconst 0, 1) := by decide +kernel
theorem dX0_ofDouble_7 : decode cX0_ofDouble 7 = .ok (.lreturn, 1) := by decide +kernel
theorem dX0_ofDouble_8 : decode cX0_ofDouble 8 = .ok (.dload_n 0, 1) := by decide +kernel
theorem dX0_ofDouble_9 : decode cX0_ofDouble 9 = .ok (.dconst 0, 1) := by decide +kernel
theorem dX0_ofDouble_10 : decode cX0_ofDouble 10 = .ok (.dcmp .g, 1) := by decide +kernel
theorem dX0_ofDouble_11 : decode cX0_ofDouble 11 = .ok (.ifCond .ge 8, 3) := by decide +kernel
theorem dX0_ofDouble_14 : decode cX0_ofDouble 14 = .ok (.dload_n 0, 1) := by decide +kernel
theorem dX0_ofDouble_15 : decode cX0_ofDouble 15 = .ok (.dneg, 1) := by decide +kernel
theorem dX0_ofDouble_16 : decode cX0_ofDouble 16 = .ok (.goto 4, 3) := by decide +kernel
theorem dX0_ofDouble_19 : decode cX0_ofDouble 19 = .ok (.dload_n 0, 1) := by decide +kernel
theorem dX0_ofDouble_20 : decode cX0_ofDouble 20 = .ok (.dstore_n 2, 1) := by decide +kernel
theorem dX0_ofDouble_21 : decode cX0_ofDouble 21 = .ok (.iconst 0, 1) := by decide +kernel
theorem dX0_ofDouble_22 : decode cX0_ofDouble 22 = .ok (.istore 4, 2) := by decide +kernel
theorem dX0_ofDouble_24 : decode cX0_ofDouble 24 = .ok (.dload_n 2, 1) := by decide +kernel
theorem dX0_ofDouble_25 : decode cX0_ofDouble 25 = .ok (.ldc2_w 7, 3) := by decide +kernel
theorem dX0_ofDouble_28 : decode cX0_ofDouble 28 = .ok (.dcmp .l, 1) := by decide +kernel
theorem dX0_ofDouble_29 : decode cX0_ofDouble 29 = .ok (.ifCond .lt 23, 3) := by decide +kernel
theorem dX0_ofDouble_32 : decode cX0_ofDouble 32 = .ok (.iload 4, 2) := by decide +kernel
theorem dX0_ofDouble_34 : decode cX0_ofDouble 34 = .ok (.sipush 1023, 3) := by decide +kernel
theorem dX0_ofDouble_37 : decode cX0_ofDouble 37 = .ok (.if_icmp .ge 15, 3) := by decide +kernel
theorem dX0_ofDouble_40 : decode cX0_ofDouble 40 = .ok (.dload_n 2, 1) := by decide +kernel
theorem dX0_ofDouble_41 : decode cX0_ofDouble 41 = .ok (.ldc2_w 7, 3) := by decide +kernel
theorem dX0_ofDouble_44 : decode cX0_ofDouble 44 = .ok (.ddiv, 1) := by decide +kernel
theorem dX0_ofDouble_45 : decode cX0_ofDouble 45 = .ok (.dstore_n 2, 1) := by decide +kernel
theorem dX0_ofDouble_46 : decode cX0_ofDouble 46 = .ok (.iinc 4 1, 3) := by decide +kernel
theorem dX0_ofDouble_49 : decode cX0_ofDouble 49 = .ok (.goto (-25), 3) := by decide +kernel
theorem dX0_ofDouble_52 : decode cX0_ofDouble 52 = .ok (.dload_n 2, 1) := by decide +kernel
theorem dX0_ofDouble_53 : decode cX0_ofDouble 53 = .ok (.dconst 1, 1) := by decide +kernel
theorem dX0_ofDouble_54 : decode cX0_ofDouble 54 = .ok (.dcmp .g, 1) := by decide +kernel
theorem dX0_ofDouble_55 : decode cX0_ofDouble 55 = .ok (.ifCond .ge 23, 3) := by decide +kernel
theorem dX0_ofDouble_58 : decode cX0_ofDouble 58 = .ok (.iload 4, 2) := by decide +kernel
theorem dX0_ofDouble_60 : decode cX0_ofDouble 60 = .ok (.sipush (-1022), 3) := by decide +kernel
theorem dX0_ofDouble_63 : decode cX0_ofDouble 63 = .ok (.if_icmp .le 15, 3) := by decide +kernel
theorem dX0_ofDouble_66 : decode cX0_ofDouble 66 = .ok (.dload_n 2, 1) := by decide +kernel
theorem dX0_ofDouble_67 : decode cX0_ofDouble 67 = .ok (.ldc2_w 7, 3) := by decide +kernel
theorem dX0_ofDouble_70 : decode cX0_ofDouble 70 = .ok (.dmul, 1) := by decide +kernel
theorem dX0_ofDouble_71 : decode cX0_ofDouble 71 = .ok (.dstore_n 2, 1) := by decide +kernel
theorem dX0_ofDouble_72 : decode cX0_ofDouble 72 = .ok (.iinc 4 (-1), 3) := by decide +kernel
theorem dX0_ofDouble_75 : decode cX0_ofDouble 75 = .ok (.goto (-23), 3) := by decide +kernel
theorem dX0_ofDouble_78 : decode cX0_ofDouble 78 = .ok (.iload 4, 2) := by decide +kernel
theorem dX0_ofDouble_80 : decode cX0_ofDouble 80 = .ok (.sipush 1023, 3) := by decide +kernel
theorem dX0_ofDouble_83 : decode cX0_ofDouble 83 = .ok (.iadd, 1) := by decide +kernel
theorem dX0_ofDouble_84 : decode cX0_ofDouble 84 = .ok (.i2l, 1) := by decide +kernel
theorem dX0_ofDouble_85 : decode cX0_ofDouble 85 = .ok (.bipush 52, 2) := by decide +kernel
theorem dX0_ofDouble_87 : decode cX0_ofDouble 87 = .ok (.lshl, 1) := by decide +kernel
theorem dX0_ofDouble_88 : decode cX0_ofDouble 88 = .ok (.dload_n 2, 1) := by decide +kernel
theorem dX0_ofDouble_89 : decode cX0_ofDouble 89 = .ok (.dconst 1, 1) := by decide +kernel
theorem dX0_ofDouble_90 : decode cX0_ofDouble 90 = .ok (.dsub, 1) := by decide +kernel
theorem dX0_ofDouble_91 : decode cX0_ofDouble 91 = .ok (.ldc2_w 9, 3) := by decide +kernel
theorem dX0_ofDouble_94 : decode cX0_ofDouble 94 = .ok (.dmul, 1) := by decide +kernel
theorem dX0_ofDouble_95 : decode cX0_ofDouble 95 = .ok (.d2l, 1) := by decide +kernel
theorem dX0_ofDouble_96 : decode cX0_ofDouble 96 = .ok (.lor, 1) := by decide +kernel
theorem dX0_ofDouble_97 : decode cX0_ofDouble 97 = .ok (.lstore 5, 2) := by decide +kernel
theorem dX0_ofDouble_99 : decode cX0_ofDouble 99 = .ok (.dload_n 0, 1) := by decide +kernel
theorem dX0_ofDouble_100 : decode cX0_ofDouble 100 = .ok (.dconst 0, 1) := by decide +kernel
theorem dX0_ofDouble_101 : decode cX0_ofDouble 101 = .ok (.dcmp .g, 1) := by decide +kernel
theorem dX0_ofDouble_102 : decode cX0_ofDouble 102 = .ok (.ifCond .ge 12, 3) := by decide +kernel
theorem dX0_ofDouble_105 : decode cX0_ofDouble 105 = .ok (.lload 5, 2) := by decide +kernel
theorem dX0_ofDouble_107 : decode cX0_ofDouble 107 = .ok (.ldc2_w 13, 3) := by decide +kernel
theorem dX0_ofDouble_110 : decode cX0_ofDouble 110 = .ok (.lor, 1) := by decide +kernel
theorem dX0_ofDouble_111 : decode cX0_ofDouble 111 = .ok (.goto 5, 3) := by decide +kernel
theorem dX0_ofDouble_114 : decode cX0_ofDouble 114 = .ok (.lload 5, 2) := by decide +kernel
theorem dX0_ofDouble_116 : decode cX0_ofDouble 116 = .ok (.lreturn, 1) := by decide +kernel
theorem dX0_ofFloat_0 : decode cX0_ofFloat 0 = .ok (.fload_n 0, 1) := by decide +kernel
theorem dX0_ofFloat_1 : decode cX0_ofFloat 1 = .ok (.fconst 0, 1) := by decide +kernel
theorem dX0_ofFloat_2 : decode cX0_ofFloat 2 = .ok (.fcmp .l, 1) := by decide +kernel
theorem dX0_ofFloat_3 : decode cX0_ofFloat 3 = .ok (.ifCond .ne 5, 3) := by decide +kernel
theorem dX0_ofFloat_6 : decode cX0_ofFloat 6 = .ok (.iconst 0, 1) := by decide +kernel
theorem dX0_ofFloat_7 : decode cX0_ofFloat 7 = .ok (.ireturn, 1) := by decide +kernel
theorem dX0_ofFloat_8 : decode cX0_ofFloat 8 = .ok (.fload_n 0, 1) := by decide +kernel
theorem dX0_ofFloat_9 : decode cX0_ofFloat 9 = .ok (.f2d, 1) := by decide +kernel
theorem dX0_ofFloat_10 : decode cX0_ofFloat 10 = .ok (.invokestatic 15, 3) := by decide +kernel
theorem dX0_ofFloat_13 : decode cX0_ofFloat 13 = .ok (.lstore_n 1, 1) := by decide +kernel
theorem dX0_ofFloat_14 : decode cX0_ofFloat 14 = .ok (.lload_n 1, 1) := by decide +kernel
theorem dX0_ofFloat_15 : decode cX0_ofFloat 15 = .ok (.lconst 0, 1) := by decide +kernel
theorem dX0_ofFloat_16 : decode cX0_ofFloat 16 = .ok (.lcmp, 1) := by decide +kernel
theorem dX0_ofFloat_17 : decode cX0_ofFloat 17 = .ok (.ifCond .ge 8, 3) := by decide +kernel
theorem dX0_ofFloat_20 : decode cX0_ofFloat 20 = .ok (.ldc 23, 2) := by decide +kernel
theorem dX0_ofFloat_22 : decode cX0_ofFloat 22 = .ok (.goto 4, 3) := by decide +kernel
theorem dX0_ofFloat_25 : decode cX0_ofFloat 25 = .ok (.iconst 0, 1) := by decide +kernel
theorem dX0_ofFloat_26 : decode cX0_ofFloat 26 = .ok (.istore_n 3, 1) := by decide +kernel
theorem dX0_ofFloat_27 : decode cX0_ofFloat 27 = .ok (.lload_n 1, 1) := by decide +kernel
theorem dX0_ofFloat_28 : decode cX0_ofFloat 28 = .ok (.bipush 52, 2) := by decide +kernel
theorem dX0_ofFloat_30 : decode cX0_ofFloat 30 = .ok (.lushr, 1) := by decide +kernel
theorem dX0_ofFloat_31 : decode cX0_ofFloat 31 = .ok (.ldc2_w 24, 3) := by decide +kernel
theorem dX0_ofFloat_34 : decode cX0_ofFloat 34 = .ok (.land, 1) := by decide +kernel
theorem dX0_ofFloat_35 : decode cX0_ofFloat 35 = .ok (.l2i, 1) := by decide +kernel
theorem dX0_ofFloat_36 : decode cX0_ofFloat 36 = .ok (.sipush 1023, 3) := by decide +kernel
theorem dX0_ofFloat_39 : decode cX0_ofFloat 39 = .ok (.isub, 1) := by decide +kernel
theorem dX0_ofFloat_40 : decode cX0_ofFloat 40 = .ok (.bipush 127, 2) := by decide +kernel
theorem dX0_ofFloat_42 : decode cX0_ofFloat 42 = .ok (.iadd, 1) := by decide +kernel
theorem dX0_ofFloat_43 : decode cX0_ofFloat 43 = .ok (.istore 4, 2) := by decide +kernel
theorem dX0_ofFloat_45 : decode cX0_ofFloat 45 = .ok (.iload_n 3, 1) := by decide +kernel
theorem dX0_ofFloat_46 : decode cX0_ofFloat 46 = .ok (.iload 4, 2) := by decide +kernel
theorem dX0_ofFloat_48 : decode cX0_ofFloat 48 = .ok (.bipush 23, 2) := by decide +kernel
theorem dX0_ofFloat_50 : decode cX0_ofFloat 50 = .ok (.ishl, 1) := by decide +kernel
theorem dX0_ofFloat_51 : decode cX0_ofFloat 51 = .ok (.ior, 1) := by decide +kernel
theorem dX0_ofFloat_52 : decode cX0_ofFloat 52 = .ok (.lload_n 1, 1) := by decide +kernel
theorem dX0_ofFloat_53 : decode cX0_ofFloat 53 = .ok (.bipush 29, 2) := by decide +kernel
theorem dX0_ofFloat_55 : decode cX0_ofFloat 55 = .ok (.lushr, 1) := by decide +kernel
theorem dX0_ofFloat_56 : decode cX0_ofFloat 56 = .ok (.ldc2_w 26, 3) := by decide +kernel
theorem dX0_ofFloat_59 : decode cX0_ofFloat 59 = .ok (.land, 1) := by decide +kernel
theorem dX0_ofFloat_60 : decode cX0_ofFloat 60 = .ok (.l2i, 1) := by decide +kernel
theorem dX0_ofFloat_61 : decode cX0_ofFloat 61 = .ok (.ior, 1) := by decide +kernel
theorem dX0_ofFloat_62 : decode cX0_ofFloat 62 = .ok (.ireturn, 1) := by decide +kernel
theorem dX1_init_0 : decode cX1_init 0 = .ok (.aload_n 0, 1) := by decide +kernel
theorem dX1_init_1 : decode cX1_init 1 = .ok (.invokespecial 3, 3) := by decide +kernel
theorem dX1_init_4 : decode cX1_init 4 = .ok (.aload_n 0, 1) := by decide +kernel
theorem dX1_init_5 : decode cX1_init 5 = .ok (.aload_n 1, 1) := by decide +kernel
theorem dX1_init_6 : decode cX1_init 6 = .ok (.putfield 9, 3) := by decide +kernel
theorem dX1_init_9 : decode cX1_init 9 = .ok (.aload_n 0, 1) := by decide +kernel
theorem dX1_init_10 : decode cX1_init 10 = .ok (.aload_n 2, 1) := by decide +kernel
theorem dX1_init_11 : decode cX1_init 11 = .ok (.putfield 15, 3) := by decide +kernel
theorem dX1_init_14 : decode cX1_init 14 = .ok (.aload_n 0, 1) := by decide +kernel
theorem dX1_init_15 : decode cX1_init 15 = .ok (.aload_n 3, 1) := by decide +kernel
theorem dX1_init_16 : decode cX1_init 16 = .ok (.putfield 19, 3) := by decide +kernel
theorem dX1_init_19 : decode cX1_init 19 = .ok (.return_, 1) := by decide +kernel
theorem dX1_read_0 : decode cX1_read 0 = .ok (.aload_n 0, 1) := by decide +kernel
theorem dX1_read_1 : decode cX1_read 1 = .ok (.getfield 9, 3) := by decide +kernel
theorem dX1_read_4 : decode cX1_read 4 = .ok (.invokevirtual 23, 3) := by decide +kernel
theorem dX1_read_7 : decode cX1_read 7 = .ok (.iconst 0, 1) := by decide +kernel
theorem dX1_read_8 : decode cX1_read 8 = .ok (.istore_n 1, 1) := by decide +kernel
theorem dX1_read_9 : decode cX1_read 9 = .ok (.iload_n 1, 1) := by decide +kernel
theorem dX1_read_10 : decode cX1_read 10 = .ok (.sipush 700, 3) := by decide +kernel
theorem dX1_read_13 : decode cX1_read 13 = .ok (.if_icmp .gt 37, 3) := by decide +kernel
theorem dX1_read_16 : decode cX1_read 16 = .ok (.aload_n 0, 1) := by decide +kernel
theorem dX1_read_17 : decode cX1_read 17 = .ok (.getfield 9, 3) := by decide +kernel
theorem dX1_read_20 : decode cX1_read 20 = .ok (.invokevirtual 28, 3) := by decide +kernel
theorem dX1_read_23 : decode cX1_read 23 = .ok (.aload_n 0, 1) := by decide +kernel
theorem dX1_read_24 : decode cX1_read 24 = .ok (.getfield 9, 3) := by decide +kernel
theorem dX1_read_27 : decode cX1_read 27 = .ok (.getfield 31, 3) := by decide +kernel
theorem dX1_read_30 : decode cX1_read 30 = .ok (.ifCond .ne 5, 3) := by decide +kernel
theorem dX1_read_33 : decode cX1_read 33 = .ok (.iconst 1, 1) := by decide +kernel
theorem dX1_read_34 : decode cX1_read 34 = .ok (.ireturn, 1) := by decide +kernel
theorem dX1_read_35 : decode cX1_read 35 = .ok (.aload_n 0, 1) := by decide +kernel
theorem dX1_read_36 : decode cX1_read 36 = .ok (.invokevirtual 35, 3) := by decide +kernel
theorem dX1_read_39 : decode cX1_read 39 = .ok (.ifCond .ne 5, 3) := by decide +kernel
theorem dX1_read_42 : decode cX1_read 42 = .ok (.iconst 0, 1) := by decide +kernel
theorem dX1_read_43 : decode cX1_read 43 = .ok (.ireturn, 1) := by decide +kernel
theorem dX1_read_44 : decode cX1_read 44 = .ok (.iinc 1 1, 3) := by decide +kernel
theorem dX1_read_47 : decode cX1_read 47 = .ok (.goto (-38), 3) := by decide +kernel
theorem dX1_read_50 : decode cX1_read 50 = .ok (.aload_n 0, 1) := by decide +kernel
theorem dX1_read_51 : decode cX1_read 51 = .ok (.getfield 9, 3) := by decide +kernel
theorem dX1_read_54 : decode cX1_read 54 = .ok (.iconst 1, 1) := by decide +kernel
theorem dX1_read_55 : decode cX1_read 55 = .ok (.invokevirtual 39, 3) := by decide +kernel
theorem dX1_read_58 : decode cX1_read 58 = .ok (.ireturn, 1) := by decide +kernel
theorem dX1_readMatch_0 : decode cX1_readMatch 0 = .ok (.aload_n 0, 1) := by decide +kernel
theorem dX1_readMatch_1 : decode cX1_readMatch 1 = .ok (.invokevirtual 43, 3) := by decide +kernel
theorem dX1_readMatch_4 : decode cX1_readMatch 4 = .ok (.istore_n 1, 1) := by decide +kernel
theorem dX1_readMatch_5 : decode cX1_readMatch 5 = .ok (.iload_n 1, 1) := by decide +kernel
theorem dX1_readMatch_6 : decode cX1_readMatch 6 = .ok (.iconst (-1), 1) := by decide +kernel
theorem dX1_readMatch_7 : decode cX1_readMatch 7 = .ok (.if_icmp .ne 5, 3) := by decide +kernel
theorem dX1_readMatch_10 : decode cX1_readMatch 10 = .ok (.iconst 0, 1) := by decide +kernel
theorem dX1_readMatch_11 : decode cX1_readMatch 11 = .ok (.ireturn, 1) := by decide +kernel
theorem dX1_readMatch_12 : decode cX1_readMatch 12 = .ok (.aload_n 0, 1) := by decide +kernel
theorem dX1_readMatch_13 : decode cX1_readMatch 13 = .ok (.getfield 9, 3) := by decide +kernel
theorem dX1_readMatch_16 : decode cX1_readMatch 16 = .ok (.iconst 0, 1) := by decide +kernel
theorem dX1_readMatch_17 : decode cX1_readMatch 17 = .ok (.bipush 99, 2) := by decide +kernel
theorem dX1_readMatch_19 : decode cX1_readMatch 19 = .ok (.invokevirtual 47, 3) := by decide +kernel
theorem dX1_readMatch_22 : decode cX1_readMatch 22 = .ok (.istore_n 2, 1) := by decide +kernel
theorem dX1_readMatch_23 : decode cX1_readMatch 23 = .ok (.iload_n 2, 1) := by decide +kernel
theorem dX1_readMatch_24 : decode cX1_readMatch 24 = .ok (.iconst (-1), 1) := by decide +kernel
theorem dX1_readMatch_25 : decode cX1_readMatch 25 = .ok (.if_icmp .eq 15, 3) := by decide +kernel
theorem dX1_readMatch_28 : decode cX1_readMatch 28 = .ok (.aload_n 0, 1) := by decide +kernel
theorem dX1_readMatch_29 : decode cX1_readMatch 29 = .ok (.getfield 9, 3) := by decide +kernel
theorem dX1_readMatch_32 : decode cX1_readMatch 32 = .ok (.bipush 45, 2) := by decide +kernel
theorem dX1_readMatch_34 : decode cX1_readMatch 34 = .ok (.invokevirtual 51, 3) := by decide +kernel
theorem dX1_readMatch_37 : decode cX1_readMatch 37 = .ok (.ifCond .ne 5, 3) := by decide +kernel
theorem dX1_readMatch_40 : decode cX1_readMatch 40 = .ok (.iconst 0, 1) := by decide +kernel
theorem dX1_readMatch_41 : decode cX1_readMatch 41 = .ok (.ireturn, 1) := by decide +kernel
theorem dX1_readMatch_42 : decode cX1_readMatch 42 = .ok (.aload_n 0, 1) := by decide +kernel
theorem dX1_readMatch_43 : decode cX1_readMatch 43 = .ok (.getfield 9, 3) := by decide +kernel
theorem dX1_readMatch_46 : decode cX1_readMatch 46 = .ok (.iconst 0, 1) := by decide +kernel
theorem dX1_readMatch_47 : decode cX1_readMatch 47 = .ok (.bipush 99, 2) := by decide +kernel
theorem dX1_readMatch_49 : decode cX1_readMatch 49 = .ok (.invokevirtual 47, 3) := by decide +kernel
theorem dX1_readMatch_52 : decode cX1_readMatch 52 = .ok (.istore_n 3, 1) := by decide +kernel
theorem dX1_readMatch_53 : decode cX1_readMatch 53 = .ok (.iload_n 3, 1) := by decide +kernel
theorem dX1_readMatch_54 : decode cX1_readMatch 54 = .ok (.iconst (-1), 1) := by decide +kernel
theorem dX1_readMatch_55 : decode cX1_readMatch 55 = .ok (.if_icmp .ne 5, 3) := by decide +kernel
theorem dX1_readMatch_58 : decode cX1_readMatch 58 = .ok (.iconst 0, 1) := by decide +kernel
theorem dX1_readMatch_59 : decode cX1_readMatch 59 = .ok (.ireturn, 1) := by decide +kernel
theorem dX1_readMatch_60 : decode cX1_readMatch 60 = .ok (.aload_n 0, 1) := by decide +kernel
theorem dX1_readMatch_61 : decode cX1_readMatch 61 = .ok (.getfield 9, 3) := by decide +kernel
theorem dX1_readMatch_64 : decode cX1_readMatch 64 = .ok (.invokevirtual 28, 3) := by decide +kernel
theorem dX1_readMatch_67 : decode cX1_readMatch 67 = .ok (.aload_n 0, 1) := by decide +kernel
theorem dX1_readMatch_68 : decode cX1_readMatch 68 = .ok (.invokevirtual 43, 3) := by decide +kernel
theorem dX1_readMatch_71 : decode cX1_readMatch 71 = .ok (.istore 4, 2) := by decide +kernel
theorem dX1_readMatch_73 : decode cX1_readMatch 73 = .ok (.iload 4, 2) := by decide +kernel
theorem dX1_readMatch_75 : decode cX1_readMatch 75 = .ok (.iconst (-1), 1) := by decide +kernel
theorem dX1_readMatch_76 : decode cX1_readMatch 76 = .ok (.if_icmp .ne 5, 3) := by decide +kernel
theorem dX1_readMatch_79 : decode cX1_readMatch 79 = .ok (.iconst 0, 1) := by decide +kernel
theorem dX1_readMatch_80 : decode cX1_readMatch 80 = .ok (.ireturn, 1) := by decide +kernel
theorem dX1_readMatch_81 : decode cX1_readMatch 81 = .ok (.iload_n 1, 1) := by decide +kernel
theorem dX1_readMatch_82 : decode cX1_readMatch 82 = .ok (.iload 4, 2) := by decide +kernel
theorem dX1_readMatch_84 : decode cX1_readMatch 84 = .ok (.if_icmp .eq 29, 3) := by decide +kernel
theorem dX1_readMatch_87 : decode cX1_readMatch 87 = .ok (.aload_n 0, 1) := by decide +kernel
theorem dX1_readMatch_88 : decode cX1_readMatch 88 = .ok (.getfield 15, 3) := by decide +kernel
theorem dX1_readMatch_91 : decode cX1_readMatch 91 = .ok (.iload_n 1, 1) := by decide +kernel
theorem dX1_readMatch_92 : decode cX1_readMatch 92 = .ok (.iload 4, 2) := by decide +kernel
theorem dX1_readMatch_94 : decode cX1_readMatch 94 = .ok (.invokevirtual 55, 3) := by decide +kernel
theorem dX1_readMatch_97 : decode cX1_readMatch 97 = .ok (.ifCond .eq 16, 3) := by decide +kernel
theorem dX1_readMatch_100 : decode cX1_readMatch 100 = .ok (.aload_n 0, 1) := by decide +kernel
theorem dX1_readMatch_101 : decode cX1_readMatch 101 = .ok (.getfield 19, 3) := by decide +kernel
theorem dX1_readMatch_104 : decode cX1_readMatch 104 = .ok (.iload_n 1, 1) := by decide +kernel
theorem dX1_readMatch_105 : decode cX1_readMatch 105 = .ok (.iload 4, 2) := by decide +kernel
theorem dX1_readMatch_107 : decode cX1_readMatch 107 = .ok (.invokevirtual 61, 3) := by decide +kernel
theorem dX1_readMatch_110 : decode cX1_readMatch 110 = .ok (.ifCond .eq 12, 3) := by decide +kernel
theorem dX1_readMatch_113 : decode cX1_readMatch 113 = .ok (.aload_n 0, 1) := by decide +kernel
theorem dX1_readMatch_114 : decode cX1_readMatch 114 = .ok (.getfield 9, 3) := by decide +kernel
theorem dX1_readMatch_117 : decode cX1_readMatch 117 = .ok (.iconst 4, 1) := by decide +kernel
theorem dX1_readMatch_118 : decode cX1_readMatch 118 = .ok (.invokevirtual 39, 3) := by decide +kernel
theorem dX1_readMatch_121 : decode cX1_readMatch 121 = .ok (.ireturn, 1) := by decide +kernel
theorem dX1_readMatch_122 : decode cX1_readMatch 122 = .ok (.aload_n 0, 1) := by decide +kernel
theorem dX1_readMatch_123 : decode cX1_readMatch 123 = .ok (.getfield 9, 3) := by decide +kernel
theorem dX1_readMatch_126 : decode cX1_readMatch 126 = .ok (.bipush 59, 2) := by decide +kernel
theorem dX1_readMatch_128 : decode cX1_readMatch 128 = .ok (.invokevirtual 51, 3) := by decide +kernel
theorem dX1_readMatch_131 : decode cX1_readMatch 131 = .ok (.ifCond .ne 5, 3) := by decide +kernel
theorem dX1_readMatch_134 : decode cX1_readMatch 134 = .ok (.iconst 0, 1) := by decide +kernel
theorem dX1_readMatch_135 : decode cX1_readMatch 135 = .ok (.ireturn, 1) := by decide +kernel
theorem dX1_readMatch_136 : decode cX1_readMatch 136 = .ok (.aload_n 0, 1) := by decide +kernel
theorem dX1_readMatch_137 : decode cX1_readMatch 137 = .ok (.getfield 19, 3) := by decide +kernel
theorem dX1_readMatch_140 : decode cX1_readMatch 140 = .ok (.iload_n 1, 1) := by decide +kernel
theorem dX1_readMatch_141 : decode cX1_readMatch 141 = .ok (.iload 4, 2) := by decide +kernel
theorem dX1_readMatch_143 : decode cX1_readMatch 143 = .ok (.iload_n 2, 1) := by decide +kernel
theorem dX1_readMatch_144 : decode cX1_readMatch 144 = .ok (.iload_n 3, 1) := by decide +kernel
theorem dX1_readMatch_145 : decode cX1_readMatch 145 = .ok (.invokevirtual 66, 3) := by decide +kernel
theorem dX1_readMatch_148 : decode cX1_readMatch 148 = .ok (.iconst 1, 1) := by decide +kernel
theorem dX1_readMatch_149 : decode cX1_readMatch 149 = .ok (.ireturn, 1) := by decide +kernel
theorem dX1_clubHere_0 : decode cX1_clubHere 0 = .ok (.aload_n 0, 1) := by decide +kernel
theorem dX1_clubHere_1 : decode cX1_clubHere 1 = .ok (.getfield 9, 3) := by decide +kernel
theorem dX1_clubHere_4 : decode cX1_clubHere 4 = .ok (.invokevirtual 70, 3) := by decide +kernel
theorem dX1_clubHere_7 : decode cX1_clubHere 7 = .ok (.ifCond .ne 14, 3) := by decide +kernel
theorem dX1_clubHere_10 : decode cX1_clubHere 10 = .ok (.aload_n 0, 1) := by decide +kernel
theorem dX1_clubHere_11 : decode cX1_clubHere 11 = .ok (.getfield 9, 3) := by decide +kernel
theorem dX1_clubHere_14 : decode cX1_clubHere 14 = .ok (.iconst 1, 1) := by decide +kernel
theorem dX1_clubHere_15 : decode cX1_clubHere 15 = .ok (.invokevirtual 39, 3) := by decide +kernel
theorem dX1_clubHere_18 : decode cX1_clubHere 18 = .ok (.pop, 1) := by decide +kernel
theorem dX1_clubHere_19 : decode cX1_clubHere 19 = .ok (.iconst (-1), 1) := by decide +kernel
theorem dX1_clubHere_20 : decode cX1_clubHere 20 = .ok (.ireturn, 1) := by decide +kernel
theorem dX1_clubHere_21 : decode cX1_clubHere 21 = .ok (.aload_n 0, 1) := by decide +kernel
theorem dX1_clubHere_22 : decode cX1_clubHere 22 = .ok (.getfield 15, 3) := by decide +kernel
theorem dX1_clubHere_25 : decode cX1_clubHere 25 = .ok (.aload_n 0, 1) := by decide +kernel
theorem dX1_clubHere_26 : decode cX1_clubHere 26 = .ok (.getfield 9, 3) := by decide +kernel
theorem dX1_clubHere_29 : decode cX1_clubHere 29 = .ok (.getfield 73, 3) := by decide +kernel
theorem dX1_clubHere_32 : decode cX1_clubHere 32 = .ok (.invokevirtual 77, 3) := by decide +kernel
theorem dX1_clubHere_35 : decode cX1_clubHere 35 = .ok (.istore_n 1, 1) := by decide +kernel
theorem dX1_clubHere_36 : decode cX1_clubHere 36 = .ok (.iload_n 1, 1) := by decide +kernel
theorem dX1_clubHere_37 : decode cX1_clubHere 37 = .ok (.iconst (-1), 1) := by decide +kernel
theorem dX1_clubHere_38 : decode cX1_clubHere 38 = .ok (.if_icmp .ne 12, 3) := by decide +kernel
theorem dX1_clubHere_41 : decode cX1_clubHere 41 = .ok (.aload_n 0, 1) := by decide +kernel
theorem dX1_clubHere_42 : decode cX1_clubHere 42 = .ok (.getfield 9, 3) := by decide +kernel
theorem dX1_clubHere_45 : decode cX1_clubHere 45 = .ok (.iconst 2, 1) := by decide +kernel
theorem dX1_clubHere_46 : decode cX1_clubHere 46 = .ok (.invokevirtual 39, 3) := by decide +kernel
theorem dX1_clubHere_49 : decode cX1_clubHere 49 = .ok (.pop, 1) := by decide +kernel
theorem dX1_clubHere_50 : decode cX1_clubHere 50 = .ok (.iload_n 1, 1) := by decide +kernel
theorem dX1_clubHere_51 : decode cX1_clubHere 51 = .ok (.ireturn, 1) := by decide +kernel
theorem dX2_init_0 : decode cX2_init 0 = .ok (.aload_n 0, 1) := by decide +kernel
theorem dX2_init_1 : decode cX2_init 1 = .ok (.invokespecial 1, 3) := by decide +kernel
theorem dX2_init_4 : decode cX2_init 4 = .ok (.aload_n 0, 1) := by decide +kernel
theorem dX2_init_5 : decode cX2_init 5 = .ok (.aload_n 1, 1) := by decide +kernel
theorem dX2_init_6 : decode cX2_init 6 = .ok (.putfield 7, 3) := by decide +kernel
theorem dX2_init_9 : decode cX2_init 9 = .ok (.aload_n 0, 1) := by decide +kernel
theorem dX2_init_10 : decode cX2_init 10 = .ok (.aload_n 2, 1) := by decide +kernel
theorem dX2_init_11 : decode cX2_init 11 = .ok (.putfield 13, 3) := by decide +kernel
theorem dX2_init_14 : decode cX2_init 14 = .ok (.aload_n 0, 1) := by decide +kernel
theorem dX2_init_15 : decode cX2_init 15 = .ok (.bipush 8, 2) := by decide +kernel
theorem dX2_init_17 : decode cX2_init 17 = .ok (.newarray .int, 2) := by decide +kernel
theorem dX2_init_19 : decode cX2_init 19 = .ok (.putfield 17, 3) := by decide +kernel
theorem dX2_init_22 : decode cX2_init 22 = .ok (.aload_n 0, 1) := by decide +kernel
theorem dX2_init_23 : decode cX2_init 23 = .ok (.bipush 8, 2) := by decide +kernel
theorem dX2_init_25 : decode cX2_init 25 = .ok (.newarray .int, 2) := by decide +kernel
theorem dX2_init_27 : decode cX2_init 27 = .ok (.putfield 21, 3) := by decide +kernel
theorem dX2_init_30 : decode cX2_init 30 = .ok (.aload_n 0, 1) := by decide +kernel
theorem dX2_init_31 : decode cX2_init 31 = .ok (.bipush 8, 2) := by decide +kernel
theorem dX2_init_33 : decode cX2_init 33 = .ok (.newarray .int, 2) := by decide +kernel
theorem dX2_init_35 : decode cX2_init 35 = .ok (.putfield 24, 3) := by decide +kernel
theorem dX2_init_38 : decode cX2_init 38 = .ok (.return_, 1) := by decide +kernel
theorem dX2_keep_0 : decode cX2_keep 0 = .ok (.aload_n 0, 1) := by decide +kernel
theorem dX2_keep_1 : decode cX2_keep 1 = .ok (.getfield 27, 3) := by decide +kernel
theorem dX2_keep_4 : decode cX2_keep 4 = .ok (.bipush 8, 2) := by decide +kernel
theorem dX2_keep_6 : decode cX2_keep 6 = .ok (.if_icmp .lt 54, 3) := by decide +kernel
theorem dX2_keep_9 : decode cX2_keep 9 = .ok (.aload_n 0, 1) := by decide +kernel
theorem dX2_keep_10 : decode cX2_keep 10 = .ok (.getfield 17, 3) := by decide +kernel
theorem dX2_keep_13 : decode cX2_keep 13 = .ok (.iconst 1, 1) := by decide +kernel
theorem dX2_keep_14 : decode cX2_keep 14 = .ok (.aload_n 0, 1) := by decide +kernel
theorem dX2_keep_15 : decode cX2_keep 15 = .ok (.getfield 17, 3) := by decide +kernel
theorem dX2_keep_18 : decode cX2_keep 18 = .ok (.iconst 0, 1) := by decide +kernel
theorem dX2_keep_19 : decode cX2_keep 19 = .ok (.bipush 7, 2) := by decide +kernel
theorem dX2_keep_21 : decode cX2_keep 21 = .ok (.invokestatic 31, 3) := by decide +kernel
theorem dX2_keep_24 : decode cX2_keep 24 = .ok (.aload_n 0, 1) := by decide +kernel
theorem dX2_keep_25 : decode cX2_keep 25 = .ok (.getfield 21, 3) := by decide +kernel
theorem dX2_keep_28 : decode cX2_keep 28 = .ok (.iconst 1, 1) := by decide +kernel
theorem dX2_keep_29 : decode cX2_keep 29 = .ok (.aload_n 0, 1) := by decide +kernel
theorem dX2_keep_30 : decode cX2_keep 30 = .ok (.getfield 21, 3) := by decide +kernel
theorem dX2_keep_33 : decode cX2_keep 33 = .ok (.iconst 0, 1) := by decide +kernel
theorem dX2_keep_34 : decode cX2_keep 34 = .ok (.bipush 7, 2) := by decide +kernel
theorem dX2_keep_36 : decode cX2_keep 36 = .ok (.invokestatic 31, 3) := by decide +kernel
theorem dX2_keep_39 : decode cX2_keep 39 = .ok (.aload_n 0, 1) := by decide +kernel
theorem dX2_keep_40 : decode cX2_keep 40 = .ok (.getfield 24, 3) := by decide +kernel
theorem dX2_keep_43 : decode cX2_keep 43 = .ok (.iconst 1, 1) := by decide +kernel
theorem dX2_keep_44 : decode cX2_keep 44 = .ok (.aload_n 0, 1) := by decide +kernel
theorem dX2_keep_45 : decode cX2_keep 45 = .ok (.getfield 24, 3) := by decide +kernel
theorem dX2_keep_48 : decode cX2_keep 48 = .ok (.iconst 0, 1) := by decide +kernel
theorem dX2_keep_49 : decode cX2_keep 49 = .ok (.bipush 7, 2) := by decide +kernel
theorem dX2_keep_51 : decode cX2_keep 51 = .ok (.invokestatic 31, 3) := by decide +kernel
theorem dX2_keep_54 : decode cX2_keep 54 = .ok (.aload_n 0, 1) := by decide +kernel
theorem dX2_keep_55 : decode cX2_keep 55 = .ok (.bipush 7, 2) := by decide +kernel
theorem dX2_keep_57 : decode cX2_keep 57 = .ok (.putfield 27, 3) := by decide +kernel
theorem dX2_keep_60 : decode cX2_keep 60 = .ok (.aload_n 0, 1) := by decide +kernel
theorem dX2_keep_61 : decode cX2_keep 61 = .ok (.getfield 17, 3) := by decide +kernel
theorem dX2_keep_64 : decode cX2_keep 64 = .ok (.aload_n 0, 1) := by decide +kernel
theorem dX2_keep_65 : decode cX2_keep 65 = .ok (.getfield 27, 3) := by decide +kernel
theorem dX2_keep_68 : decode cX2_keep 68 = .ok (.iload_n 1, 1) := by decide +kernel
theorem dX2_keep_69 : decode cX2_keep 69 = .ok (.iastore, 1) := by decide +kernel
theorem dX2_keep_70 : decode cX2_keep 70 = .ok (.aload_n 0, 1) := by decide +kernel
theorem dX2_keep_71 : decode cX2_keep 71 = .ok (.getfield 21, 3) := by decide +kernel
theorem dX2_keep_74 : decode cX2_keep 74 = .ok (.aload_n 0, 1) := by decide +kernel
theorem dX2_keep_75 : decode cX2_keep 75 = .ok (.getfield 27, 3) := by decide +kernel
theorem dX2_keep_78 : decode cX2_keep 78 = .ok (.iload_n 2, 1) := by decide +kernel
theorem dX2_keep_79 : decode cX2_keep 79 = .ok (.iastore, 1) := by decide +kernel
theorem dX2_keep_80 : decode cX2_keep 80 = .ok (.aload_n 0, 1) := by decide +kernel
theorem dX2_keep_81 : decode cX2_keep 81 = .ok (.getfield 24, 3) := by decide +kernel
theorem dX2_keep_84 : decode cX2_keep 84 = .ok (.aload_n 0, 1) := by decide +kernel
theorem dX2_keep_85 : decode cX2_keep 85 = .ok (.getfield 27, 3) := by decide +kernel
theorem dX2_keep_88 : decode cX2_keep 88 = .ok (.iload_n 3, 1) := by decide +kernel
theorem dX2_keep_89 : decode cX2_keep 89 = .ok (.iastore, 1) := by decide +kernel
theorem dX2_keep_90 : decode cX2_keep 90 = .ok (.aload_n 0, 1) := by decide +kernel
theorem dX2_keep_91 : decode cX2_keep 91 = .ok (.dup, 1) := by decide +kernel
theorem dX2_keep_92 : decode cX2_keep 92 = .ok (.getfield 27, 3) := by decide +kernel
theorem dX2_keep_95 : decode cX2_keep 95 = .ok (.iconst 1, 1) := by decide +kernel
theorem dX2_keep_96 : decode cX2_keep 96 = .ok (.iadd, 1) := by decide +kernel
theorem dX2_keep_97 : decode cX2_keep 97 = .ok (.putfield 27, 3) := by decide +kernel
theorem dX2_keep_100 : decode cX2_keep 100 = .ok (.return_, 1) := by decide +kernel
theorem dX2_takeBack_0 : decode cX2_takeBack 0 = .ok (.aload_n 0, 1) := by decide +kernel
theorem dX2_takeBack_1 : decode cX2_takeBack 1 = .ok (.getfield 27, 3) := by decide +kernel
theorem dX2_takeBack_4 : decode cX2_takeBack 4 = .ok (.iconst 1, 1) := by decide +kernel
theorem dX2_takeBack_5 : decode cX2_takeBack 5 = .ok (.if_icmp .ge 5, 3) := by decide +kernel
theorem dX2_takeBack_8 : decode cX2_takeBack 8 = .ok (.iconst 0, 1) := by decide +kernel
theorem dX2_takeBack_9 : decode cX2_takeBack 9 = .ok (.ireturn, 1) := by decide +kernel
theorem dX2_takeBack_10 : decode cX2_takeBack 10 = .ok (.aload_n 0, 1) := by decide +kernel
theorem dX2_takeBack_11 : decode cX2_takeBack 11 = .ok (.dup, 1) := by decide +kernel
theorem dX2_takeBack_12 : decode cX2_takeBack 12 = .ok (.getfield 27, 3) := by decide +kernel
theorem dX2_takeBack_15 : decode cX2_takeBack 15 = .ok (.iconst 1, 1) := by decide +kernel
theorem dX2_takeBack_16 : decode cX2_takeBack 16 = .ok (.isub, 1) := by decide +kernel
theorem dX2_takeBack_17 : decode cX2_takeBack 17 = .ok (.putfield 27, 3) := by decide +kernel
theorem dX2_takeBack_20 : decode cX2_takeBack 20 = .ok (.aload_n 0, 1) := by decide +kernel
theorem dX2_takeBack_21 : decode cX2_takeBack 21 = .ok (.getfield 17, 3) := by decide +kernel
theorem dX2_takeBack_24 : decode cX2_takeBack 24 = .ok (.aload_n 0, 1) := by decide +kernel
theorem dX2_takeBack_25 : decode cX2_takeBack 25 = .ok (.getfield 27, 3) := by decide +kernel
theorem dX2_takeBack_28 : decode cX2_takeBack 28 = .ok (.iaload, 1) := by decide +kernel
theorem dX2_takeBack_29 : decode cX2_takeBack 29 = .ok (.ifCond .ne 22, 3) := by decide +kernel
theorem dX2_takeBack_32 : decode cX2_takeBack 32 = .ok (.aload_n 0, 1) := by decide +kernel
theorem dX2_takeBack_33 : decode cX2_takeBack 33 = .ok (.getfield 13, 3) := by decide +kernel
theorem dX2_takeBack_36 : decode cX2_takeBack 36 = .ok (.aload_n 0, 1) := by decide +kernel
theorem dX2_takeBack_37 : decode cX2_takeBack 37 = .ok (.getfield 24, 3) := by decide +kernel
theorem dX2_takeBack_40 : decode cX2_takeBack 40 = .ok (.aload_n 0, 1) := by decide +kernel
theorem dX2_takeBack_41 : decode cX2_takeBack 41 = .ok (.getfield 27, 3) := by decide +kernel
theorem dX2_takeBack_44 : decode cX2_takeBack 44 = .ok (.iaload, 1) := by decide +kernel
theorem dX2_takeBack_45 : decode cX2_takeBack 45 = .ok (.invokevirtual 37, 3) := by decide +kernel
theorem dX2_takeBack_48 : decode cX2_takeBack 48 = .ok (.goto 53, 3) := by decide +kernel
theorem dX2_takeBack_51 : decode cX2_takeBack 51 = .ok (.aload_n 0, 1) := by decide +kernel
theorem dX2_takeBack_52 : decode cX2_takeBack 52 = .ok (.getfield 7, 3) := by decide +kernel
theorem dX2_takeBack_55 : decode cX2_takeBack 55 = .ok (.aload_n 0, 1) := by decide +kernel
theorem dX2_takeBack_56 : decode cX2_takeBack 56 = .ok (.getfield 21, 3) := by decide +kernel
theorem dX2_takeBack_59 : decode cX2_takeBack 59 = .ok (.aload_n 0, 1) := by decide +kernel
theorem dX2_takeBack_60 : decode cX2_takeBack 60 = .ok (.getfield 27, 3) := by decide +kernel
theorem dX2_takeBack_63 : decode cX2_takeBack 63 = .ok (.iaload, 1) := by decide +kernel
theorem dX2_takeBack_64 : decode cX2_takeBack 64 = .ok (.invokevirtual 43, 3) := by decide +kernel
theorem dX2_takeBack_67 : decode cX2_takeBack 67 = .ok (.ifCond .eq 34, 3) := by decide +kernel
theorem dX2_takeBack_70 : decode cX2_takeBack 70 = .ok (.aload_n 0, 1) := by decide +kernel
theorem dX2_takeBack_71 : decode cX2_takeBack 71 = .ok (.aload_n 0, 1) := by decide +kernel
theorem dX2_takeBack_72 : decode cX2_takeBack 72 = .ok (.getfield 21, 3) := by decide +kernel
theorem dX2_takeBack_75 : decode cX2_takeBack 75 = .ok (.aload_n 0, 1) := by decide +kernel
theorem dX2_takeBack_76 : decode cX2_takeBack 76 = .ok (.getfield 27, 3) := by decide +kernel
theorem dX2_takeBack_79 : decode cX2_takeBack 79 = .ok (.iaload, 1) := by decide +kernel
theorem dX2_takeBack_80 : decode cX2_takeBack 80 = .ok (.aload_n 0, 1) := by decide +kernel
theorem dX2_takeBack_81 : decode cX2_takeBack 81 = .ok (.getfield 17, 3) := by decide +kernel
theorem dX2_takeBack_84 : decode cX2_takeBack 84 = .ok (.aload_n 0, 1) := by decide +kernel
theorem dX2_takeBack_85 : decode cX2_takeBack 85 = .ok (.getfield 27, 3) := by decide +kernel
theorem dX2_takeBack_88 : decode cX2_takeBack 88 = .ok (.iaload, 1) := by decide +kernel
theorem dX2_takeBack_89 : decode cX2_takeBack 89 = .ok (.aload_n 0, 1) := by decide +kernel
theorem dX2_takeBack_90 : decode cX2_takeBack 90 = .ok (.getfield 24, 3) := by decide +kernel
theorem dX2_takeBack_93 : decode cX2_takeBack 93 = .ok (.aload_n 0, 1) := by decide +kernel
theorem dX2_takeBack_94 : decode cX2_takeBack 94 = .ok (.getfield 27, 3) := by decide +kernel
theorem dX2_takeBack_97 : decode cX2_takeBack 97 = .ok (.iaload, 1) := by decide +kernel
theorem dX2_takeBack_98 : decode cX2_takeBack 98 = .ok (.invokevirtual 49, 3) := by decide +kernel
theorem dX2_takeBack_101 : decode cX2_takeBack 101 = .ok (.iconst 1, 1) := by decide +kernel
theorem dX2_takeBack_102 : decode cX2_takeBack 102 = .ok (.ireturn, 1) := by decide +kernel
theorem dX2_takeBackOf_0 : decode cX2_takeBackOf 0 = .ok (.iload_n 2, 1) := by decide +kernel
theorem dX2_takeBackOf_1 : decode cX2_takeBackOf 1 = .ok (.tableswitch 69 1 3 #[27, 40, 53], 27) := by decide +kernel
theorem dX2_takeBackOf_28 : decode cX2_takeBackOf 28 = .ok (.aload_n 0, 1) := by decide +kernel
theorem dX2_takeBackOf_29 : decode cX2_takeBackOf 29 = .ok (.getfield 13, 3) := by decide +kernel
theorem dX2_takeBackOf_32 : decode cX2_takeBackOf 32 = .ok (.getfield 53, 3) := by decide +kernel
theorem dX2_takeBackOf_35 : decode cX2_takeBackOf 35 = .ok (.iload_n 1, 1) := by decide +kernel
theorem dX2_takeBackOf_36 : decode cX2_takeBackOf 36 = .ok (.iconst 0, 1) := by decide +kernel
theorem dX2_takeBackOf_37 : decode cX2_takeBackOf 37 = .ok (.iastore, 1) := by decide +kernel
theorem dX2_takeBackOf_38 : decode cX2_takeBackOf 38 = .ok (.goto 42, 3) := by decide +kernel
theorem dX2_takeBackOf_41 : decode cX2_takeBackOf 41 = .ok (.aload_n 0, 1) := by decide +kernel
theorem dX2_takeBackOf_42 : decode cX2_takeBackOf 42 = .ok (.getfield 13, 3) := by decide +kernel
theorem dX2_takeBackOf_45 : decode cX2_takeBackOf 45 = .ok (.getfield 56, 3) := by decide +kernel
theorem dX2_takeBackOf_48 : decode cX2_takeBackOf 48 = .ok (.iload_n 1, 1) := by decide +kernel
theorem dX2_takeBackOf_49 : decode cX2_takeBackOf 49 = .ok (.iconst 0, 1) := by decide +kernel
theorem dX2_takeBackOf_50 : decode cX2_takeBackOf 50 = .ok (.iastore, 1) := by decide +kernel
theorem dX2_takeBackOf_51 : decode cX2_takeBackOf 51 = .ok (.goto 29, 3) := by decide +kernel
theorem dX2_takeBackOf_54 : decode cX2_takeBackOf 54 = .ok (.aload_n 0, 1) := by decide +kernel
theorem dX2_takeBackOf_55 : decode cX2_takeBackOf 55 = .ok (.getfield 13, 3) := by decide +kernel
theorem dX2_takeBackOf_58 : decode cX2_takeBackOf 58 = .ok (.getfield 59, 3) := by decide +kernel
theorem dX2_takeBackOf_61 : decode cX2_takeBackOf 61 = .ok (.iload_n 1, 1) := by decide +kernel
theorem dX2_takeBackOf_62 : decode cX2_takeBackOf 62 = .ok (.dup2, 1) := by decide +kernel
theorem dX2_takeBackOf_63 : decode cX2_takeBackOf 63 = .ok (.iaload, 1) := by decide +kernel
theorem dX2_takeBackOf_64 : decode cX2_takeBackOf 64 = .ok (.iload_n 3, 1) := by decide +kernel
theorem dX2_takeBackOf_65 : decode cX2_takeBackOf 65 = .ok (.isub, 1) := by decide +kernel
theorem dX2_takeBackOf_66 : decode cX2_takeBackOf 66 = .ok (.iastore, 1) := by decide +kernel
theorem dX2_takeBackOf_67 : decode cX2_takeBackOf 67 = .ok (.goto 13, 3) := by decide +kernel
theorem dX2_takeBackOf_70 : decode cX2_takeBackOf 70 = .ok (.aload_n 0, 1) := by decide +kernel
theorem dX2_takeBackOf_71 : decode cX2_takeBackOf 71 = .ok (.getfield 7, 3) := by decide +kernel
theorem dX2_takeBackOf_74 : decode cX2_takeBackOf 74 = .ok (.getfield 62, 3) := by decide +kernel
theorem dX2_takeBackOf_77 : decode cX2_takeBackOf 77 = .ok (.iload_n 1, 1) := by decide +kernel
theorem dX2_takeBackOf_78 : decode cX2_takeBackOf 78 = .ok (.iload_n 3, 1) := by decide +kernel
theorem dX2_takeBackOf_79 : decode cX2_takeBackOf 79 = .ok (.iastore, 1) := by decide +kernel
theorem dX2_takeBackOf_80 : decode cX2_takeBackOf 80 = .ok (.return_, 1) := by decide +kernel
theorem dX3_init_0 : decode cX3_init 0 = .ok (.aload_n 0, 1) := by decide +kernel
theorem dX3_init_1 : decode cX3_init 1 = .ok (.invokespecial 3, 3) := by decide +kernel
theorem dX3_init_4 : decode cX3_init 4 = .ok (.aload_n 0, 1) := by decide +kernel
theorem dX3_init_5 : decode cX3_init 5 = .ok (.aload_n 1, 1) := by decide +kernel
theorem dX3_init_6 : decode cX3_init 6 = .ok (.putfield 9, 3) := by decide +kernel
theorem dX3_init_9 : decode cX3_init 9 = .ok (.aload_n 0, 1) := by decide +kernel
theorem dX3_init_10 : decode cX3_init 10 = .ok (.aload_n 2, 1) := by decide +kernel
theorem dX3_init_11 : decode cX3_init 11 = .ok (.putfield 15, 3) := by decide +kernel
theorem dX3_init_14 : decode cX3_init 14 = .ok (.aload_n 0, 1) := by decide +kernel
theorem dX3_init_15 : decode cX3_init 15 = .ok (.aload_n 3, 1) := by decide +kernel
theorem dX3_init_16 : decode cX3_init 16 = .ok (.putfield 19, 3) := by decide +kernel
theorem dX3_init_19 : decode cX3_init 19 = .ok (.aload_n 0, 1) := by decide +kernel
theorem dX3_init_20 : decode cX3_init 20 = .ok (.iconst 4, 1) := by decide +kernel
theorem dX3_init_21 : decode cX3_init 21 = .ok (.newarray .int, 2) := by decide +kernel
theorem dX3_init_23 : decode cX3_init 23 = .ok (.putfield 23, 3) := by decide +kernel
theorem dX3_init_26 : decode cX3_init 26 = .ok (.aload_n 0, 1) := by decide +kernel
theorem dX3_init_27 : decode cX3_init 27 = .ok (.iconst 4, 1) := by decide +kernel
theorem dX3_init_28 : decode cX3_init 28 = .ok (.newarray .int, 2) := by decide +kernel
theorem dX3_init_30 : decode cX3_init 30 = .ok (.putfield 27, 3) := by decide +kernel
theorem dX3_init_33 : decode cX3_init 33 = .ok (.aload_n 0, 1) := by decide +kernel
theorem dX3_init_34 : decode cX3_init 34 = .ok (.bipush 16, 2) := by decide +kernel
theorem dX3_init_36 : decode cX3_init 36 = .ok (.newarray .int, 2) := by decide +kernel
theorem dX3_init_38 : decode cX3_init 38 = .ok (.putfield 30, 3) := by decide +kernel
theorem dX3_init_41 : decode cX3_init 41 = .ok (.aload_n 0, 1) := by decide +kernel
theorem dX3_init_42 : decode cX3_init 42 = .ok (.sipush 480, 3) := by decide +kernel
theorem dX3_init_45 : decode cX3_init 45 = .ok (.newarray .int, 2) := by decide +kernel
theorem dX3_init_47 : decode cX3_init 47 = .ok (.putfield 33, 3) := by decide +kernel
theorem dX3_init_50 : decode cX3_init 50 = .ok (.aload_n 0, 1) := by decide +kernel
theorem dX3_init_51 : decode cX3_init 51 = .ok (.bipush 30, 2) := by decide +kernel
theorem dX3_init_53 : decode cX3_init 53 = .ok (.newarray .int, 2) := by decide +kernel
theorem dX3_init_55 : decode cX3_init 55 = .ok (.putfield 36, 3) := by decide +kernel
theorem dX3_init_58 : decode cX3_init 58 = .ok (.return_, 1) := by decide +kernel
theorem dX3_wantingOf_0 : decode cX3_wantingOf 0 = .ok (.iconst 0, 1) := by decide +kernel
theorem dX3_wantingOf_1 : decode cX3_wantingOf 1 = .ok (.istore_n 2, 1) := by decide +kernel
theorem dX3_wantingOf_2 : decode cX3_wantingOf 2 = .ok (.iconst 0, 1) := by decide +kernel
theorem dX3_wantingOf_3 : decode cX3_wantingOf 3 = .ok (.istore_n 3, 1) := by decide +kernel
theorem dX3_wantingOf_4 : decode cX3_wantingOf 4 = .ok (.iload_n 3, 1) := by decide +kernel
theorem dX3_wantingOf_5 : decode cX3_wantingOf 5 = .ok (.aload_n 0, 1) := by decide +kernel
theorem dX3_wantingOf_6 : decode cX3_wantingOf 6 = .ok (.getfield 9, 3) := by decide +kernel
theorem dX3_wantingOf_9 : decode cX3_wantingOf 9 = .ok (.getfield 39, 3) := by decide +kernel
theorem dX3_wantingOf_12 : decode cX3_wantingOf 12 = .ok (.if_icmp .ge 48, 3) := by decide +kernel
theorem dX3_wantingOf_15 : decode cX3_wantingOf 15 = .ok (.aload_n 0, 1) := by decide +kernel
theorem dX3_wantingOf_16 : decode cX3_wantingOf 16 = .ok (.getfield 15, 3) := by decide +kernel
theorem dX3_wantingOf_19 : decode cX3_wantingOf 19 = .ok (.getfield 45, 3) := by decide +kernel
theorem dX3_wantingOf_22 : decode cX3_wantingOf 22 = .ok (.iload_n 3, 1) := by decide +kernel
theorem dX3_wantingOf_23 : decode cX3_wantingOf 23 = .ok (.iaload, 1) := by decide +kernel
theorem dX3_wantingOf_24 : decode cX3_wantingOf 24 = .ok (.ifCond .eq 30, 3) := by decide +kernel
theorem dX3_wantingOf_27 : decode cX3_wantingOf 27 = .ok (.aload_n 0, 1) := by decide +kernel
theorem dX3_wantingOf_28 : decode cX3_wantingOf 28 = .ok (.getfield 9, 3) := by decide +kernel
theorem dX3_wantingOf_31 : decode cX3_wantingOf 31 = .ok (.iload_n 3, 1) := by decide +kernel
theorem dX3_wantingOf_32 : decode cX3_wantingOf 32 = .ok (.invokevirtual 50, 3) := by decide +kernel
theorem dX3_wantingOf_35 : decode cX3_wantingOf 35 = .ok (.ifCond .eq 19, 3) := by decide +kernel
theorem dX3_wantingOf_38 : decode cX3_wantingOf 38 = .ok (.aload_n 0, 1) := by decide +kernel
theorem dX3_wantingOf_39 : decode cX3_wantingOf 39 = .ok (.getfield 9, 3) := by decide +kernel
theorem dX3_wantingOf_42 : decode cX3_wantingOf 42 = .ok (.getfield 54, 3) := by decide +kernel
theorem dX3_wantingOf_45 : decode cX3_wantingOf 45 = .ok (.iload_n 3, 1) := by decide +kernel
theorem dX3_wantingOf_46 : decode cX3_wantingOf 46 = .ok (.iaload, 1) := by decide +kernel
theorem dX3_wantingOf_47 : decode cX3_wantingOf 47 = .ok (.iload_n 1, 1) := by decide +kernel
theorem dX3_wantingOf_48 : decode cX3_wantingOf 48 = .ok (.if_icmp .gt 6, 3) := by decide +kernel
theorem dX3_wantingOf_51 : decode cX3_wantingOf 51 = .ok (.iinc 2 1, 3) := by decide +kernel
theorem dX3_wantingOf_54 : decode cX3_wantingOf 54 = .ok (.iinc 3 1, 3) := by decide +kernel
theorem dX3_wantingOf_57 : decode cX3_wantingOf 57 = .ok (.goto (-53), 3) := by decide +kernel
theorem dX3_wantingOf_60 : decode cX3_wantingOf 60 = .ok (.iload_n 2, 1) := by decide +kernel
theorem dX3_wantingOf_61 : decode cX3_wantingOf 61 = .ok (.ireturn, 1) := by decide +kernel
theorem dX3_mayRise_0 : decode cX3_mayRise 0 = .ok (.aload_n 0, 1) := by decide +kernel
theorem dX3_mayRise_1 : decode cX3_mayRise 1 = .ok (.getfield 9, 3) := by decide +kernel
theorem dX3_mayRise_4 : decode cX3_mayRise 4 = .ok (.getfield 54, 3) := by decide +kernel
theorem dX3_mayRise_7 : decode cX3_mayRise 7 = .ok (.iload_n 1, 1) := by decide +kernel
theorem dX3_mayRise_8 : decode cX3_mayRise 8 = .ok (.iaload, 1) := by decide +kernel
theorem dX3_mayRise_9 : decode cX3_mayRise 9 = .ok (.istore_n 2, 1) := by decide +kernel
theorem dX3_mayRise_10 : decode cX3_mayRise 10 = .ok (.iload_n 2, 1) := by decide +kernel
theorem dX3_mayRise_11 : decode cX3_mayRise 11 = .ok (.ifCond .le 54, 3) := by decide +kernel
theorem dX3_mayRise_14 : decode cX3_mayRise 14 = .ok (.aload_n 0, 1) := by decide +kernel
theorem dX3_mayRise_15 : decode cX3_mayRise 15 = .ok (.getfield 15, 3) := by decide +kernel
theorem dX3_mayRise_18 : decode cX3_mayRise 18 = .ok (.getfield 45, 3) := by decide +kernel
theorem dX3_mayRise_21 : decode cX3_mayRise 21 = .ok (.iload_n 1, 1) := by decide +kernel
theorem dX3_mayRise_22 : decode cX3_mayRise 22 = .ok (.iaload, 1) := by decide +kernel
theorem dX3_mayRise_23 : decode cX3_mayRise 23 = .ok (.ifCond .ne 42, 3) := by decide +kernel
theorem dX3_mayRise_26 : decode cX3_mayRise 26 = .ok (.aload_n 0, 1) := by decide +kernel
theorem dX3_mayRise_27 : decode cX3_mayRise 27 = .ok (.getfield 15, 3) := by decide +kernel
theorem dX3_mayRise_30 : decode cX3_mayRise 30 = .ok (.getfield 57, 3) := by decide +kernel
theorem dX3_mayRise_33 : decode cX3_mayRise 33 = .ok (.iload_n 1, 1) := by decide +kernel
theorem dX3_mayRise_34 : decode cX3_mayRise 34 = .ok (.iaload, 1) := by decide +kernel
theorem dX3_mayRise_35 : decode cX3_mayRise 35 = .ok (.ifCond .ne 30, 3) := by decide +kernel
theorem dX3_mayRise_38 : decode cX3_mayRise 38 = .ok (.aload_n 0, 1) := by decide +kernel
theorem dX3_mayRise_39 : decode cX3_mayRise 39 = .ok (.getfield 9, 3) := by decide +kernel
theorem dX3_mayRise_42 : decode cX3_mayRise 42 = .ok (.getfield 60, 3) := by decide +kernel
theorem dX3_mayRise_45 : decode cX3_mayRise 45 = .ok (.iload_n 1, 1) := by decide +kernel
theorem dX3_mayRise_46 : decode cX3_mayRise 46 = .ok (.iaload, 1) := by decide +kernel
theorem dX3_mayRise_47 : decode cX3_mayRise 47 = .ok (.aload_n 0, 1) := by decide +kernel
theorem dX3_mayRise_48 : decode cX3_mayRise 48 = .ok (.getfield 9, 3) := by decide +kernel
theorem dX3_mayRise_51 : decode cX3_mayRise 51 = .ok (.getfield 63, 3) := by decide +kernel
theorem dX3_mayRise_54 : decode cX3_mayRise 54 = .ok (.iload_n 2, 1) := by decide +kernel
theorem dX3_mayRise_55 : decode cX3_mayRise 55 = .ok (.iconst 1, 1) := by decide +kernel
theorem dX3_mayRise_56 : decode cX3_mayRise 56 = .ok (.isub, 1) := by decide +kernel
theorem dX3_mayRise_57 : decode cX3_mayRise 57 = .ok (.iaload, 1) := by decide +kernel
theorem dX3_mayRise_58 : decode cX3_mayRise 58 = .ok (.if_icmp .lt 7, 3) := by decide +kernel
theorem dX3_mayRise_61 : decode cX3_mayRise 61 = .ok (.iconst 1, 1) := by decide +kernel
theorem dX3_mayRise_62 : decode cX3_mayRise 62 = .ok (.goto 4, 3) := by decide +kernel
theorem dX3_mayRise_65 : decode cX3_mayRise 65 = .ok (.iconst 0, 1) := by decide +kernel
theorem dX3_mayRise_66 : decode cX3_mayRise 66 = .ok (.ireturn, 1) := by decide +kernel
theorem dX3_mayRiseFrom_0 : decode cX3_mayRiseFrom 0 = .ok (.iconst 0, 1) := by decide +kernel
theorem dX3_mayRiseFrom_1 : decode cX3_mayRiseFrom 1 = .ok (.istore_n 2, 1) := by decide +kernel
theorem dX3_mayRiseFrom_2 : decode cX3_mayRiseFrom 2 = .ok (.iconst 0, 1) := by decide +kernel
theorem dX3_mayRiseFrom_3 : decode cX3_mayRiseFrom 3 = .ok (.istore_n 3, 1) := by decide +kernel
theorem dX3_mayRiseFrom_4 : decode cX3_mayRiseFrom 4 = .ok (.iload_n 3, 1) := by decide +kernel
theorem dX3_mayRiseFrom_5 : decode cX3_mayRiseFrom 5 = .ok (.aload_n 0, 1) := by decide +kernel
theorem dX3_mayRiseFrom_6 : decode cX3_mayRiseFrom 6 = .ok (.getfield 9, 3) := by decide +kernel
theorem dX3_mayRiseFrom_9 : decode cX3_mayRiseFrom 9 = .ok (.getfield 39, 3) := by decide +kernel
theorem dX3_mayRiseFrom_12 : decode cX3_mayRiseFrom 12 = .ok (.if_icmp .ge 33, 3) := by decide +kernel
theorem dX3_mayRiseFrom_15 : decode cX3_mayRiseFrom 15 = .ok (.aload_n 0, 1) := by decide +kernel
theorem dX3_mayRiseFrom_16 : decode cX3_mayRiseFrom 16 = .ok (.getfield 9, 3) := by decide +kernel
theorem dX3_mayRiseFrom_19 : decode cX3_mayRiseFrom 19 = .ok (.getfield 54, 3) := by decide +kernel
theorem dX3_mayRiseFrom_22 : decode cX3_mayRiseFrom 22 = .ok (.iload_n 3, 1) := by decide +kernel
theorem dX3_mayRiseFrom_23 : decode cX3_mayRiseFrom 23 = .ok (.iaload, 1) := by decide +kernel
theorem dX3_mayRiseFrom_24 : decode cX3_mayRiseFrom 24 = .ok (.iload_n 1, 1) := by decide +kernel
theorem dX3_mayRiseFrom_25 : decode cX3_mayRiseFrom 25 = .ok (.if_icmp .ne 14, 3) := by decide +kernel
theorem dX3_mayRiseFrom_28 : decode cX3_mayRiseFrom 28 = .ok (.aload_n 0, 1) := by decide +kernel
theorem dX3_mayRiseFrom_29 : decode cX3_mayRiseFrom 29 = .ok (.iload_n 3, 1) := by decide +kernel
theorem dX3_mayRiseFrom_30 : decode cX3_mayRiseFrom 30 = .ok (.invokevirtual 66, 3) := by decide +kernel
theorem dX3_mayRiseFrom_33 : decode cX3_mayRiseFrom 33 = .ok (.ifCond .eq 6, 3) := by decide +kernel
theorem dX3_mayRiseFrom_36 : decode cX3_mayRiseFrom 36 = .ok (.iinc 2 1, 3) := by decide +kernel
theorem dX3_mayRiseFrom_39 : decode cX3_mayRiseFrom 39 = .ok (.iinc 3 1, 3) := by decide +kernel
theorem dX3_mayRiseFrom_42 : decode cX3_mayRiseFrom 42 = .ok (.goto (-38), 3) := by decide +kernel
theorem dX3_mayRiseFrom_45 : decode cX3_mayRiseFrom 45 = .ok (.iload_n 2, 1) := by decide +kernel
theorem dX3_mayRiseFrom_46 : decode cX3_mayRiseFrom 46 = .ok (.ireturn, 1) := by decide +kernel
theorem dX3_countOf_0 : decode cX3_countOf 0 = .ok (.aload_n 0, 1) := by decide +kernel
theorem dX3_countOf_1 : decode cX3_countOf 1 = .ok (.getfield 30, 3) := by decide +kernel
theorem dX3_countOf_4 : decode cX3_countOf 4 = .ok (.iload_n 1, 1) := by decide +kernel
theorem dX3_countOf_5 : decode cX3_countOf 5 = .ok (.iconst 4, 1) := by decide +kernel
theorem dX3_countOf_6 : decode cX3_countOf 6 = .ok (.imul, 1) := by decide +kernel
theorem dX3_countOf_7 : decode cX3_countOf 7 = .ok (.iload_n 2, 1) := by decide +kernel
theorem dX3_countOf_8 : decode cX3_countOf 8 = .ok (.iadd, 1) := by decide +kernel
theorem dX3_countOf_9 : decode cX3_countOf 9 = .ok (.iaload, 1) := by decide +kernel
theorem dX3_countOf_10 : decode cX3_countOf 10 = .ok (.ireturn, 1) := by decide +kernel
theorem dX3_mover_0 : decode cX3_mover 0 = .ok (.aload_n 0, 1) := by decide +kernel
theorem dX3_mover_1 : decode cX3_mover 1 = .ok (.getfield 33, 3) := by decide +kernel
theorem dX3_mover_4 : decode cX3_mover 4 = .ok (.iload_n 1, 1) := by decide +kernel
theorem dX3_mover_5 : decode cX3_mover 5 = .ok (.iconst 4, 1) := by decide +kernel
theorem dX3_mover_6 : decode cX3_mover 6 = .ok (.imul, 1) := by decide +kernel
theorem dX3_mover_7 : decode cX3_mover 7 = .ok (.iload_n 2, 1) := by decide +kernel
theorem dX3_mover_8 : decode cX3_mover 8 = .ok (.iadd, 1) := by decide +kernel
theorem dX3_mover_9 : decode cX3_mover 9 = .ok (.bipush 30, 2) := by decide +kernel
theorem dX3_mover_11 : decode cX3_mover 11 = .ok (.imul, 1) := by decide +kernel
theorem dX3_mover_12 : decode cX3_mover 12 = .ok (.iload_n 3, 1) := by decide +kernel
theorem dX3_mover_13 : decode cX3_mover 13 = .ok (.iadd, 1) := by decide +kernel
theorem dX3_mover_14 : decode cX3_mover 14 = .ok (.iaload, 1) := by decide +kernel
theorem dX3_mover_15 : decode cX3_mover 15 = .ok (.ireturn, 1) := by decide +kernel
theorem dX3_add_0 : decode cX3_add 0 = .ok (.iload_n 1, 1) := by decide +kernel
theorem dX3_add_1 : decode cX3_add 1 = .ok (.iconst 4, 1) := by decide +kernel
theorem dX3_add_2 : decode cX3_add 2 = .ok (.imul, 1) := by decide +kernel
theorem dX3_add_3 : decode cX3_add 3 = .ok (.iload_n 2, 1) := by decide +kernel
theorem dX3_add_4 : decode cX3_add 4 = .ok (.iadd, 1) := by decide +kernel
theorem dX3_add_5 : decode cX3_add 5 = .ok (.istore 5, 2) := by decide +kernel
theorem dX3_add_7 : decode cX3_add 7 = .ok (.aload_n 0, 1) := by decide +kernel
theorem dX3_add_8 : decode cX3_add 8 = .ok (.getfield 30, 3) := by decide +kernel
theorem dX3_add_11 : decode cX3_add 11 = .ok (.iload 5, 2) := by decide +kernel
theorem dX3_add_13 : decode cX3_add 13 = .ok (.iaload, 1) := by decide +kernel
theorem dX3_add_14 : decode cX3_add 14 = .ok (.bipush 30, 2) := by decide +kernel
theorem dX3_add_16 : decode cX3_add 16 = .ok (.if_icmp .ge 41, 3) := by decide +kernel
theorem dX3_add_19 : decode cX3_add 19 = .ok (.aload_n 0, 1) := by decide +kernel
theorem dX3_add_20 : decode cX3_add 20 = .ok (.getfield 33, 3) := by decide +kernel
theorem dX3_add_23 : decode cX3_add 23 = .ok (.iload 5, 2) := by decide +kernel
theorem dX3_add_25 : decode cX3_add 25 = .ok (.bipush 30, 2) := by decide +kernel
theorem dX3_add_27 : decode cX3_add 27 = .ok (.imul, 1) := by decide +kernel
theorem dX3_add_28 : decode cX3_add 28 = .ok (.aload_n 0, 1) := by decide +kernel
theorem dX3_add_29 : decode cX3_add 29 = .ok (.getfield 30, 3) := by decide +kernel
theorem dX3_add_32 : decode cX3_add 32 = .ok (.iload 5, 2) := by decide +kernel
theorem dX3_add_34 : decode cX3_add 34 = .ok (.iaload, 1) := by decide +kernel
theorem dX3_add_35 : decode cX3_add 35 = .ok (.iadd, 1) := by decide +kernel
theorem dX3_add_36 : decode cX3_add 36 = .ok (.iload_n 3, 1) := by decide +kernel
theorem dX3_add_37 : decode cX3_add 37 = .ok (.iastore, 1) := by decide +kernel
theorem dX3_add_38 : decode cX3_add 38 = .ok (.aload_n 0, 1) := by decide +kernel
theorem dX3_add_39 : decode cX3_add 39 = .ok (.getfield 30, 3) := by decide +kernel
theorem dX3_add_42 : decode cX3_add 42 = .ok (.iload 5, 2) := by decide +kernel
theorem dX3_add_44 : decode cX3_add 44 = .ok (.dup2, 1) := by decide +kernel
theorem dX3_add_45 : decode cX3_add 45 = .ok (.iaload, 1) := by decide +kernel
theorem dX3_add_46 : decode cX3_add 46 = .ok (.iconst 1, 1) := by decide +kernel
theorem dX3_add_47 : decode cX3_add 47 = .ok (.iadd, 1) := by decide +kernel
theorem dX3_add_48 : decode cX3_add 48 = .ok (.iastore, 1) := by decide +kernel
theorem dX3_add_49 : decode cX3_add 49 = .ok (.aload_n 0, 1) := by decide +kernel
theorem dX3_add_50 : decode cX3_add 50 = .ok (.getfield 36, 3) := by decide +kernel
theorem dX3_add_53 : decode cX3_add 53 = .ok (.iload_n 3, 1) := by decide +kernel
theorem dX3_add_54 : decode cX3_add 54 = .ok (.iload 4, 2) := by decide +kernel
theorem dX3_add_56 : decode cX3_add 56 = .ok (.iastore, 1) := by decide +kernel
theorem dX3_add_57 : decode cX3_add 57 = .ok (.return_, 1) := by decide +kernel
theorem dX3_risenInAll_0 : decode cX3_risenInAll 0 = .ok (.iconst 0, 1) := by decide +kernel
theorem dX3_risenInAll_1 : decode cX3_risenInAll 1 = .ok (.istore_n 1, 1) := by decide +kernel
theorem dX3_risenInAll_2 : decode cX3_risenInAll 2 = .ok (.iconst 0, 1) := by decide +kernel
theorem dX3_risenInAll_3 : decode cX3_risenInAll 3 = .ok (.istore_n 2, 1) := by decide +kernel
theorem dX3_risenInAll_4 : decode cX3_risenInAll 4 = .ok (.iload_n 2, 1) := by decide +kernel
theorem dX3_risenInAll_5 : decode cX3_risenInAll 5 = .ok (.aload_n 0, 1) := by decide +kernel
theorem dX3_risenInAll_6 : decode cX3_risenInAll 6 = .ok (.getfield 9, 3) := by decide +kernel
theorem dX3_risenInAll_9 : decode cX3_risenInAll 9 = .ok (.getfield 69, 3) := by decide +kernel
theorem dX3_risenInAll_12 : decode cX3_risenInAll 12 = .ok (.if_icmp .ge 18, 3) := by decide +kernel
theorem dX3_risenInAll_15 : decode cX3_risenInAll 15 = .ok (.iload_n 1, 1) := by decide +kernel
theorem dX3_risenInAll_16 : decode cX3_risenInAll 16 = .ok (.aload_n 0, 1) := by decide +kernel
theorem dX3_risenInAll_17 : decode cX3_risenInAll 17 = .ok (.iload_n 2, 1) := by decide +kernel
theorem dX3_risenInAll_18 : decode cX3_risenInAll 18 = .ok (.iconst 0, 1) := by decide +kernel
theorem dX3_risenInAll_19 : decode cX3_risenInAll 19 = .ok (.invokevirtual 72, 3) := by decide +kernel
theorem dX3_risenInAll_22 : decode cX3_risenInAll 22 = .ok (.iadd, 1) := by decide +kernel
theorem dX3_risenInAll_23 : decode cX3_risenInAll 23 = .ok (.istore_n 1, 1) := by decide +kernel
theorem dX3_risenInAll_24 : decode cX3_risenInAll 24 = .ok (.iinc 2 1, 3) := by decide +kernel
theorem dX3_risenInAll_27 : decode cX3_risenInAll 27 = .ok (.goto (-23), 3) := by decide +kernel
theorem dX3_risenInAll_30 : decode cX3_risenInAll 30 = .ok (.iload_n 1, 1) := by decide +kernel
theorem dX3_risenInAll_31 : decode cX3_risenInAll 31 = .ok (.ireturn, 1) := by decide +kernel
theorem dX3_weigh_0 : decode cX3_weigh 0 = .ok (.aload_n 0, 1) := by decide +kernel
theorem dX3_weigh_1 : decode cX3_weigh 1 = .ok (.getfield 30, 3) := by decide +kernel
theorem dX3_weigh_4 : decode cX3_weigh 4 = .ok (.iconst 0, 1) := by decide +kernel
theorem dX3_weigh_5 : decode cX3_weigh 5 = .ok (.invokestatic 76, 3) := by decide +kernel
theorem dX3_weigh_8 : decode cX3_weigh 8 = .ok (.iconst 0, 1) := by decide +kernel
theorem dX3_weigh_9 : decode cX3_weigh 9 = .ok (.istore_n 1, 1) := by decide +kernel
theorem dX3_weigh_10 : decode cX3_weigh 10 = .ok (.iload_n 1, 1) := by decide +kernel
theorem dX3_weigh_11 : decode cX3_weigh 11 = .ok (.aload_n 0, 1) := by decide +kernel
theorem dX3_weigh_12 : decode cX3_weigh 12 = .ok (.getfield 9, 3) := by decide +kernel
theorem dX3_weigh_15 : decode cX3_weigh 15 = .ok (.getfield 39, 3) := by decide +kernel
theorem dX3_weigh_18 : decode cX3_weigh 18 = .ok (.if_icmp .ge 41, 3) := by decide +kernel
theorem dX3_weigh_21 : decode cX3_weigh 21 = .ok (.aload_n 0, 1) := by decide +kernel
theorem dX3_weigh_22 : decode cX3_weigh 22 = .ok (.getfield 36, 3) := by decide +kernel
theorem dX3_weigh_25 : decode cX3_weigh 25 = .ok (.iload_n 1, 1) := by decide +kernel
theorem dX3_weigh_26 : decode cX3_weigh 26 = .ok (.aload_n 0, 1) := by decide +kernel
theorem dX3_weigh_27 : decode cX3_weigh 27 = .ok (.getfield 15, 3) := by decide +kernel
theorem dX3_weigh_30 : decode cX3_weigh 30 = .ok (.getfield 45, 3) := by decide +kernel
theorem dX3_weigh_33 : decode cX3_weigh 33 = .ok (.iload_n 1, 1) := by decide +kernel
theorem dX3_weigh_34 : decode cX3_weigh 34 = .ok (.iaload, 1) := by decide +kernel
theorem dX3_weigh_35 : decode cX3_weigh 35 = .ok (.ifCond .eq 8, 3) := by decide +kernel
theorem dX3_weigh_38 : decode cX3_weigh 38 = .ok (.bipush (-2), 2) := by decide +kernel
theorem dX3_weigh_40 : decode cX3_weigh 40 = .ok (.goto 12, 3) := by decide +kernel
theorem dX3_weigh_43 : decode cX3_weigh 43 = .ok (.aload_n 0, 1) := by decide +kernel
theorem dX3_weigh_44 : decode cX3_weigh 44 = .ok (.getfield 9, 3) := by decide +kernel
theorem dX3_weigh_47 : decode cX3_weigh 47 = .ok (.getfield 54, 3) := by decide +kernel
theorem dX3_weigh_50 : decode cX3_weigh 50 = .ok (.iload_n 1, 1) := by decide +kernel
theorem dX3_weigh_51 : decode cX3_weigh 51 = .ok (.iaload, 1) := by decide +kernel
theorem dX3_weigh_52 : decode cX3_weigh 52 = .ok (.iastore, 1) := by decide +kernel
theorem dX3_weigh_53 : decode cX3_weigh 53 = .ok (.iinc 1 1, 3) := by decide +kernel
theorem dX3_weigh_56 : decode cX3_weigh 56 = .ok (.goto (-46), 3) := by decide +kernel
theorem dX3_weigh_59 : decode cX3_weigh 59 = .ok (.iconst 0, 1) := by decide +kernel
theorem dX3_weigh_60 : decode cX3_weigh 60 = .ok (.istore_n 1, 1) := by decide +kernel
theorem dX3_weigh_61 : decode cX3_weigh 61 = .ok (.iload_n 1, 1) := by decide +kernel
theorem dX3_weigh_62 : decode cX3_weigh 62 = .ok (.aload_n 0, 1) := by decide +kernel
theorem dX3_weigh_63 : decode cX3_weigh 63 = .ok (.getfield 9, 3) := by decide +kernel
theorem dX3_weigh_66 : decode cX3_weigh 66 = .ok (.getfield 69, 3) := by decide +kernel
theorem dX3_weigh_69 : decode cX3_weigh 69 = .ok (.iconst 1, 1) := by decide +kernel
theorem dX3_weigh_70 : decode cX3_weigh 70 = .ok (.isub, 1) := by decide +kernel
theorem dX3_weigh_71 : decode cX3_weigh 71 = .ok (.if_icmp .ge 14, 3) := by decide +kernel
theorem dX3_weigh_74 : decode cX3_weigh 74 = .ok (.aload_n 0, 1) := by decide +kernel
theorem dX3_weigh_75 : decode cX3_weigh 75 = .ok (.iload_n 1, 1) := by decide +kernel
theorem dX3_weigh_76 : decode cX3_weigh 76 = .ok (.invokevirtual 82, 3) := by decide +kernel
theorem dX3_weigh_79 : decode cX3_weigh 79 = .ok (.iinc 1 1, 3) := by decide +kernel
theorem dX3_weigh_82 : decode cX3_weigh 82 = .ok (.goto (-21), 3) := by decide +kernel
theorem dX3_weigh_85 : decode cX3_weigh 85 = .ok (.iconst 0, 1) := by decide +kernel
theorem dX3_weigh_86 : decode cX3_weigh 86 = .ok (.istore_n 1, 1) := by decide +kernel
theorem dX3_weigh_87 : decode cX3_weigh 87 = .ok (.iload_n 1, 1) := by decide +kernel
theorem dX3_weigh_88 : decode cX3_weigh 88 = .ok (.aload_n 0, 1) := by decide +kernel
theorem dX3_weigh_89 : decode cX3_weigh 89 = .ok (.getfield 9, 3) := by decide +kernel
theorem dX3_weigh_92 : decode cX3_weigh 92 = .ok (.getfield 69, 3) := by decide +kernel
theorem dX3_weigh_95 : decode cX3_weigh 95 = .ok (.if_icmp .ge 35, 3) := by decide +kernel
theorem dX3_weigh_98 : decode cX3_weigh 98 = .ok (.aload_n 0, 1) := by decide +kernel
theorem dX3_weigh_99 : decode cX3_weigh 99 = .ok (.getfield 19, 3) := by decide +kernel
theorem dX3_weigh_102 : decode cX3_weigh 102 = .ok (.iload_n 1, 1) := by decide +kernel
theorem dX3_weigh_103 : decode cX3_weigh 103 = .ok (.invokevirtual 86, 3) := by decide +kernel
theorem dX3_weigh_106 : decode cX3_weigh 106 = .ok (.aload_n 0, 1) := by decide +kernel
theorem dX3_weigh_107 : decode cX3_weigh 107 = .ok (.iload_n 1, 1) := by decide +kernel
theorem dX3_weigh_108 : decode cX3_weigh 108 = .ok (.invokevirtual 91, 3) := by decide +kernel
theorem dX3_weigh_111 : decode cX3_weigh 111 = .ok (.ifCond .eq 11, 3) := by decide +kernel
theorem dX3_weigh_114 : decode cX3_weigh 114 = .ok (.aload_n 0, 1) := by decide +kernel
theorem dX3_weigh_115 : decode cX3_weigh 115 = .ok (.iload_n 1, 1) := by decide +kernel
theorem dX3_weigh_116 : decode cX3_weigh 116 = .ok (.invokevirtual 94, 3) := by decide +kernel
theorem dX3_weigh_119 : decode cX3_weigh 119 = .ok (.ifCond .ne 5, 3) := by decide +kernel
theorem dX3_weigh_122 : decode cX3_weigh 122 = .ok (.iconst 0, 1) := by decide +kernel
theorem dX3_weigh_123 : decode cX3_weigh 123 = .ok (.ireturn, 1) := by decide +kernel
theorem dX3_weigh_124 : decode cX3_weigh 124 = .ok (.iinc 1 1, 3) := by decide +kernel
theorem dX3_weigh_127 : decode cX3_weigh 127 = .ok (.goto (-40), 3) := by decide +kernel
theorem dX3_weigh_130 : decode cX3_weigh 130 = .ok (.aload_n 0, 1) := by decide +kernel
theorem dX3_weigh_131 : decode cX3_weigh 131 = .ok (.getfield 9, 3) := by decide +kernel
theorem dX3_weigh_134 : decode cX3_weigh 134 = .ok (.getfield 69, 3) := by decide +kernel
theorem dX3_weigh_137 : decode cX3_weigh 137 = .ok (.ifCond .le 23, 3) := by decide +kernel
theorem dX3_weigh_140 : decode cX3_weigh 140 = .ok (.aload_n 0, 1) := by decide +kernel
theorem dX3_weigh_141 : decode cX3_weigh 141 = .ok (.aload_n 0, 1) := by decide +kernel
theorem dX3_weigh_142 : decode cX3_weigh 142 = .ok (.getfield 9, 3) := by decide +kernel
theorem dX3_weigh_145 : decode cX3_weigh 145 = .ok (.getfield 69, 3) := by decide +kernel
theorem dX3_weigh_148 : decode cX3_weigh 148 = .ok (.iconst 1, 1) := by decide +kernel
theorem dX3_weigh_149 : decode cX3_weigh 149 = .ok (.isub, 1) := by decide +kernel
theorem dX3_weigh_150 : decode cX3_weigh 150 = .ok (.invokevirtual 97, 3) := by decide +kernel
theorem dX3_weigh_153 : decode cX3_weigh 153 = .ok (.ifCond .eq 7, 3) := by decide +kernel
theorem dX3_weigh_156 : decode cX3_weigh 156 = .ok (.iconst 1, 1) := by decide +kernel
theorem dX3_weigh_157 : decode cX3_weigh 157 = .ok (.goto 4, 3) := by decide +kernel
theorem dX3_weigh_160 : decode cX3_weigh 160 = .ok (.iconst 0, 1) := by decide +kernel
theorem dX3_weigh_161 : decode cX3_weigh 161 = .ok (.ireturn, 1) := by decide +kernel
theorem dX3_setNumbers_0 : decode cX3_setNumbers 0 = .ok (.aload_n 0, 1) := by decide +kernel
theorem dX3_setNumbers_1 : decode cX3_setNumbers 1 = .ok (.iload_n 1, 1) := by decide +kernel
theorem dX3_setNumbers_2 : decode cX3_setNumbers 2 = .ok (.invokevirtual 100, 3) := by decide +kernel
theorem dX3_setNumbers_5 : decode cX3_setNumbers 5 = .ok (.istore_n 2, 1) := by decide +kernel
theorem dX3_setNumbers_6 : decode cX3_setNumbers 6 = .ok (.aload_n 0, 1) := by decide +kernel
theorem dX3_setNumbers_7 : decode cX3_setNumbers 7 = .ok (.getfield 9, 3) := by decide +kernel
theorem dX3_setNumbers_10 : decode cX3_setNumbers 10 = .ok (.getfield 104, 3) := by decide +kernel
theorem dX3_setNumbers_13 : decode cX3_setNumbers 13 = .ok (.iload_n 1, 1) := by decide +kernel
theorem dX3_setNumbers_14 : decode cX3_setNumbers 14 = .ok (.iaload, 1) := by decide +kernel
theorem dX3_setNumbers_15 : decode cX3_setNumbers 15 = .ok (.iload_n 2, 1) := by decide +kernel
theorem dX3_setNumbers_16 : decode cX3_setNumbers 16 = .ok (.invokestatic 107, 3) := by decide +kernel
theorem dX3_setNumbers_19 : decode cX3_setNumbers 19 = .ok (.istore_n 3, 1) := by decide +kernel
theorem dX3_setNumbers_20 : decode cX3_setNumbers 20 = .ok (.aload_n 0, 1) := by decide +kernel
theorem dX3_setNumbers_21 : decode cX3_setNumbers 21 = .ok (.getfield 23, 3) := by decide +kernel
theorem dX3_setNumbers_24 : decode cX3_setNumbers 24 = .ok (.iload_n 1, 1) := by decide +kernel
theorem dX3_setNumbers_25 : decode cX3_setNumbers 25 = .ok (.iload_n 3, 1) := by decide +kernel
theorem dX3_setNumbers_26 : decode cX3_setNumbers 26 = .ok (.aload_n 0, 1) := by decide +kernel
theorem dX3_setNumbers_27 : decode cX3_setNumbers 27 = .ok (.iload_n 1, 1) := by decide +kernel
theorem dX3_setNumbers_28 : decode cX3_setNumbers 28 = .ok (.iconst 1, 1) := by decide +kernel
theorem dX3_setNumbers_29 : decode cX3_setNumbers 29 = .ok (.iadd, 1) := by decide +kernel
theorem dX3_setNumbers_30 : decode cX3_setNumbers 30 = .ok (.invokevirtual 112, 3) := by decide +kernel
theorem dX3_setNumbers_33 : decode cX3_setNumbers 33 = .ok (.invokestatic 115, 3) := by decide +kernel
theorem dX3_setNumbers_36 : decode cX3_setNumbers 36 = .ok (.iload_n 2, 1) := by decide +kernel
theorem dX3_setNumbers_37 : decode cX3_setNumbers 37 = .ok (.invokestatic 107, 3) := by decide +kernel
theorem dX3_setNumbers_40 : decode cX3_setNumbers 40 = .ok (.iastore, 1) := by decide +kernel
theorem dX3_setNumbers_41 : decode cX3_setNumbers 41 = .ok (.aload_n 0, 1) := by decide +kernel
theorem dX3_setNumbers_42 : decode cX3_setNumbers 42 = .ok (.getfield 27, 3) := by decide +kernel
theorem dX3_setNumbers_45 : decode cX3_setNumbers 45 = .ok (.iload_n 1, 1) := by decide +kernel
theorem dX3_setNumbers_46 : decode cX3_setNumbers 46 = .ok (.aload_n 0, 1) := by decide +kernel
theorem dX3_setNumbers_47 : decode cX3_setNumbers 47 = .ok (.getfield 23, 3) := by decide +kernel
theorem dX3_setNumbers_50 : decode cX3_setNumbers 50 = .ok (.iload_n 1, 1) := by decide +kernel
theorem dX3_setNumbers_51 : decode cX3_setNumbers 51 = .ok (.iaload, 1) := by decide +kernel
theorem dX3_setNumbers_52 : decode cX3_setNumbers 52 = .ok (.iload_n 2, 1) := by decide +kernel
theorem dX3_setNumbers_53 : decode cX3_setNumbers 53 = .ok (.isub, 1) := by decide +kernel
theorem dX3_setNumbers_54 : decode cX3_setNumbers 54 = .ok (.iastore, 1) := by decide +kernel
theorem dX3_setNumbers_55 : decode cX3_setNumbers 55 = .ok (.return_, 1) := by decide +kernel
theorem dX3_sendUp_0 : decode cX3_sendUp 0 = .ok (.iload_n 1, 1) := by decide +kernel
theorem dX3_sendUp_1 : decode cX3_sendUp 1 = .ok (.iconst 1, 1) := by decide +kernel
theorem dX3_sendUp_2 : decode cX3_sendUp 2 = .ok (.if_icmp .ge 5, 3) := by decide +kernel
theorem dX3_sendUp_5 : decode cX3_sendUp 5 = .ok (.iconst 1, 1) := by decide +kernel
theorem dX3_sendUp_6 : decode cX3_sendUp 6 = .ok (.ireturn, 1) := by decide +kernel
theorem dX3_sendUp_7 : decode cX3_sendUp 7 = .ok (.aload_n 0, 1) := by decide +kernel
theorem dX3_sendUp_8 : decode cX3_sendUp 8 = .ok (.iload_n 1, 1) := by decide +kernel
theorem dX3_sendUp_9 : decode cX3_sendUp 9 = .ok (.iconst 1, 1) := by decide +kernel
theorem dX3_sendUp_10 : decode cX3_sendUp 10 = .ok (.invokevirtual 118, 3) := by decide +kernel
theorem dX3_sendUp_13 : decode cX3_sendUp 13 = .ok (.aload_n 0, 1) := by decide +kernel
theorem dX3_sendUp_14 : decode cX3_sendUp 14 = .ok (.iload_n 1, 1) := by decide +kernel
theorem dX3_sendUp_15 : decode cX3_sendUp 15 = .ok (.iconst 0, 1) := by decide +kernel
theorem dX3_sendUp_16 : decode cX3_sendUp 16 = .ok (.invokevirtual 118, 3) := by decide +kernel
theorem dX3_sendUp_19 : decode cX3_sendUp 19 = .ok (.aload_n 0, 1) := by decide +kernel
theorem dX3_sendUp_20 : decode cX3_sendUp 20 = .ok (.iload_n 1, 1) := by decide +kernel
theorem dX3_sendUp_21 : decode cX3_sendUp 21 = .ok (.iconst 0, 1) := by decide +kernel
theorem dX3_sendUp_22 : decode cX3_sendUp 22 = .ok (.invokevirtual 72, 3) := by decide +kernel
theorem dX3_sendUp_25 : decode cX3_sendUp 25 = .ok (.aload_n 0, 1) := by decide +kernel
theorem dX3_sendUp_26 : decode cX3_sendUp 26 = .ok (.getfield 23, 3) := by decide +kernel
theorem dX3_sendUp_29 : decode cX3_sendUp 29 = .ok (.iload_n 1, 1) := by decide +kernel
theorem dX3_sendUp_30 : decode cX3_sendUp 30 = .ok (.iconst 1, 1) := by decide +kernel
theorem dX3_sendUp_31 : decode cX3_sendUp 31 = .ok (.isub, 1) := by decide +kernel
theorem dX3_sendUp_32 : decode cX3_sendUp 32 = .ok (.iaload, 1) := by decide +kernel
theorem dX3_sendUp_33 : decode cX3_sendUp 33 = .ok (.if_icmp .ne 7, 3) := by decide +kernel
theorem dX3_sendUp_36 : decode cX3_sendUp 36 = .ok (.iconst 1, 1) := by decide +kernel
theorem dX3_sendUp_37 : decode cX3_sendUp 37 = .ok (.goto 4, 3) := by decide +kernel
theorem dX3_sendUp_40 : decode cX3_sendUp 40 = .ok (.iconst 0, 1) := by decide +kernel
theorem dX3_sendUp_41 : decode cX3_sendUp 41 = .ok (.ireturn, 1) := by decide +kernel
theorem dX3_sendUpThose_0 : decode cX3_sendUpThose 0 = .ok (.iconst 0, 1) := by decide +kernel
theorem dX3_sendUpThose_1 : decode cX3_sendUpThose 1 = .ok (.istore_n 3, 1) := by decide +kernel
theorem dX3_sendUpThose_2 : decode cX3_sendUpThose 2 = .ok (.iload_n 3, 1) := by decide +kernel
theorem dX3_sendUpThose_3 : decode cX3_sendUpThose 3 = .ok (.aload_n 0, 1) := by decide +kernel
theorem dX3_sendUpThose_4 : decode cX3_sendUpThose 4 = .ok (.getfield 19, 3) := by decide +kernel
theorem dX3_sendUpThose_7 : decode cX3_sendUpThose 7 = .ok (.getfield 122, 3) := by decide +kernel
theorem dX3_sendUpThose_10 : decode cX3_sendUpThose 10 = .ok (.if_icmp .ge 71, 3) := by decide +kernel
theorem dX3_sendUpThose_13 : decode cX3_sendUpThose 13 = .ok (.aload_n 0, 1) := by decide +kernel
theorem dX3_sendUpThose_14 : decode cX3_sendUpThose 14 = .ok (.iload_n 1, 1) := by decide +kernel
theorem dX3_sendUpThose_15 : decode cX3_sendUpThose 15 = .ok (.iconst 0, 1) := by decide +kernel
theorem dX3_sendUpThose_16 : decode cX3_sendUpThose 16 = .ok (.invokevirtual 72, 3) := by decide +kernel
theorem dX3_sendUpThose_19 : decode cX3_sendUpThose 19 = .ok (.aload_n 0, 1) := by decide +kernel
theorem dX3_sendUpThose_20 : decode cX3_sendUpThose 20 = .ok (.getfield 23, 3) := by decide +kernel
theorem dX3_sendUpThose_23 : decode cX3_sendUpThose 23 = .ok (.iload_n 1, 1) := by decide +kernel
theorem dX3_sendUpThose_24 : decode cX3_sendUpThose 24 = .ok (.iconst 1, 1) := by decide +kernel
theorem dX3_sendUpThose_25 : decode cX3_sendUpThose 25 = .ok (.isub, 1) := by decide +kernel
theorem dX3_sendUpThose_26 : decode cX3_sendUpThose 26 = .ok (.iaload, 1) := by decide +kernel
theorem dX3_sendUpThose_27 : decode cX3_sendUpThose 27 = .ok (.if_icmp .ge 54, 3) := by decide +kernel
theorem dX3_sendUpThose_30 : decode cX3_sendUpThose 30 = .ok (.aload_n 0, 1) := by decide +kernel
theorem dX3_sendUpThose_31 : decode cX3_sendUpThose 31 = .ok (.getfield 19, 3) := by decide +kernel
theorem dX3_sendUpThose_34 : decode cX3_sendUpThose 34 = .ok (.getfield 125, 3) := by decide +kernel
theorem dX3_sendUpThose_37 : decode cX3_sendUpThose 37 = .ok (.iload_n 3, 1) := by decide +kernel
theorem dX3_sendUpThose_38 : decode cX3_sendUpThose 38 = .ok (.iaload, 1) := by decide +kernel
theorem dX3_sendUpThose_39 : decode cX3_sendUpThose 39 = .ok (.istore 4, 2) := by decide +kernel
theorem dX3_sendUpThose_41 : decode cX3_sendUpThose 41 = .ok (.aload_n 0, 1) := by decide +kernel
theorem dX3_sendUpThose_42 : decode cX3_sendUpThose 42 = .ok (.getfield 15, 3) := by decide +kernel
theorem dX3_sendUpThose_45 : decode cX3_sendUpThose 45 = .ok (.getfield 45, 3) := by decide +kernel
theorem dX3_sendUpThose_48 : decode cX3_sendUpThose 48 = .ok (.iload 4, 2) := by decide +kernel
theorem dX3_sendUpThose_50 : decode cX3_sendUpThose 50 = .ok (.iaload, 1) := by decide +kernel
theorem dX3_sendUpThose_51 : decode cX3_sendUpThose 51 = .ok (.ifCond .ne 24, 3) := by decide +kernel
theorem dX3_sendUpThose_54 : decode cX3_sendUpThose 54 = .ok (.aload_n 0, 1) := by decide +kernel
theorem dX3_sendUpThose_55 : decode cX3_sendUpThose 55 = .ok (.iload 4, 2) := by decide +kernel
theorem dX3_sendUpThose_57 : decode cX3_sendUpThose 57 = .ok (.invokevirtual 66, 3) := by decide +kernel
theorem dX3_sendUpThose_60 : decode cX3_sendUpThose 60 = .ok (.iload_n 2, 1) := by decide +kernel
theorem dX3_sendUpThose_61 : decode cX3_sendUpThose 61 = .ok (.if_icmp .ne 14, 3) := by decide +kernel
theorem dX3_sendUpThose_64 : decode cX3_sendUpThose 64 = .ok (.aload_n 0, 1) := by decide +kernel
theorem dX3_sendUpThose_65 : decode cX3_sendUpThose 65 = .ok (.iload_n 1, 1) := by decide +kernel
theorem dX3_sendUpThose_66 : decode cX3_sendUpThose 66 = .ok (.iconst 0, 1) := by decide +kernel
theorem dX3_sendUpThose_67 : decode cX3_sendUpThose 67 = .ok (.iload 4, 2) := by decide +kernel
theorem dX3_sendUpThose_69 : decode cX3_sendUpThose 69 = .ok (.iload_n 1, 1) := by decide +kernel
theorem dX3_sendUpThose_70 : decode cX3_sendUpThose 70 = .ok (.iconst 1, 1) := by decide +kernel
theorem dX3_sendUpThose_71 : decode cX3_sendUpThose 71 = .ok (.isub, 1) := by decide +kernel
theorem dX3_sendUpThose_72 : decode cX3_sendUpThose 72 = .ok (.invokevirtual 128, 3) := by decide +kernel
theorem dX3_sendUpThose_75 : decode cX3_sendUpThose 75 = .ok (.iinc 3 1, 3) := by decide +kernel
theorem dX3_sendUpThose_78 : decode cX3_sendUpThose 78 = .ok (.goto (-76), 3) := by decide +kernel
theorem dX3_sendUpThose_81 : decode cX3_sendUpThose 81 = .ok (.return_, 1) := by decide +kernel
theorem dX3_sendDown_0 : decode cX3_sendDown 0 = .ok (.iload_n 1, 1) := by decide +kernel
theorem dX3_sendDown_1 : decode cX3_sendDown 1 = .ok (.aload_n 0, 1) := by decide +kernel
theorem dX3_sendDown_2 : decode cX3_sendDown 2 = .ok (.getfield 9, 3) := by decide +kernel
theorem dX3_sendDown_5 : decode cX3_sendDown 5 = .ok (.getfield 69, 3) := by decide +kernel
theorem dX3_sendDown_8 : decode cX3_sendDown 8 = .ok (.iconst 1, 1) := by decide +kernel
theorem dX3_sendDown_9 : decode cX3_sendDown 9 = .ok (.isub, 1) := by decide +kernel
theorem dX3_sendDown_10 : decode cX3_sendDown 10 = .ok (.if_icmp .lt 5, 3) := by decide +kernel
theorem dX3_sendDown_13 : decode cX3_sendDown 13 = .ok (.iconst 1, 1) := by decide +kernel
theorem dX3_sendDown_14 : decode cX3_sendDown 14 = .ok (.ireturn, 1) := by decide +kernel
theorem dX3_sendDown_15 : decode cX3_sendDown 15 = .ok (.iconst 0, 1) := by decide +kernel
theorem dX3_sendDown_16 : decode cX3_sendDown 16 = .ok (.istore_n 2, 1) := by decide +kernel
theorem dX3_sendDown_17 : decode cX3_sendDown 17 = .ok (.iconst 0, 1) := by decide +kernel
theorem dX3_sendDown_18 : decode cX3_sendDown 18 = .ok (.istore_n 3, 1) := by decide +kernel
theorem dX3_sendDown_19 : decode cX3_sendDown 19 = .ok (.iload_n 3, 1) := by decide +kernel
theorem dX3_sendDown_20 : decode cX3_sendDown 20 = .ok (.aload_n 0, 1) := by decide +kernel
theorem dX3_sendDown_21 : decode cX3_sendDown 21 = .ok (.getfield 19, 3) := by decide +kernel
theorem dX3_sendDown_24 : decode cX3_sendDown 24 = .ok (.getfield 122, 3) := by decide +kernel
theorem dX3_sendDown_27 : decode cX3_sendDown 27 = .ok (.if_icmp .ge 30, 3) := by decide +kernel
theorem dX3_sendDown_30 : decode cX3_sendDown 30 = .ok (.aload_n 0, 1) := by decide +kernel
theorem dX3_sendDown_31 : decode cX3_sendDown 31 = .ok (.getfield 36, 3) := by decide +kernel
theorem dX3_sendDown_34 : decode cX3_sendDown 34 = .ok (.aload_n 0, 1) := by decide +kernel
theorem dX3_sendDown_35 : decode cX3_sendDown 35 = .ok (.getfield 19, 3) := by decide +kernel
theorem dX3_sendDown_38 : decode cX3_sendDown 38 = .ok (.getfield 125, 3) := by decide +kernel
theorem dX3_sendDown_41 : decode cX3_sendDown 41 = .ok (.iload_n 3, 1) := by decide +kernel
theorem dX3_sendDown_42 : decode cX3_sendDown 42 = .ok (.iaload, 1) := by decide +kernel
theorem dX3_sendDown_43 : decode cX3_sendDown 43 = .ok (.iaload, 1) := by decide +kernel
theorem dX3_sendDown_44 : decode cX3_sendDown 44 = .ok (.iload_n 1, 1) := by decide +kernel
theorem dX3_sendDown_45 : decode cX3_sendDown 45 = .ok (.if_icmp .ne 6, 3) := by decide +kernel
theorem dX3_sendDown_48 : decode cX3_sendDown 48 = .ok (.iinc 2 1, 3) := by decide +kernel
theorem dX3_sendDown_51 : decode cX3_sendDown 51 = .ok (.iinc 3 1, 3) := by decide +kernel
theorem dX3_sendDown_54 : decode cX3_sendDown 54 = .ok (.goto (-35), 3) := by decide +kernel
theorem dX3_sendDown_57 : decode cX3_sendDown 57 = .ok (.iconst 0, 1) := by decide +kernel
theorem dX3_sendDown_58 : decode cX3_sendDown 58 = .ok (.istore_n 3, 1) := by decide +kernel
theorem dX3_sendDown_59 : decode cX3_sendDown 59 = .ok (.iconst 0, 1) := by decide +kernel
theorem dX3_sendDown_60 : decode cX3_sendDown 60 = .ok (.istore 4, 2) := by decide +kernel
theorem dX3_sendDown_62 : decode cX3_sendDown 62 = .ok (.iload 4, 2) := by decide +kernel
theorem dX3_sendDown_64 : decode cX3_sendDown 64 = .ok (.aload_n 0, 1) := by decide +kernel
theorem dX3_sendDown_65 : decode cX3_sendDown 65 = .ok (.getfield 19, 3) := by decide +kernel
theorem dX3_sendDown_68 : decode cX3_sendDown 68 = .ok (.getfield 122, 3) := by decide +kernel
theorem dX3_sendDown_71 : decode cX3_sendDown 71 = .ok (.if_icmp .ge 85, 3) := by decide +kernel
theorem dX3_sendDown_74 : decode cX3_sendDown 74 = .ok (.aload_n 0, 1) := by decide +kernel
theorem dX3_sendDown_75 : decode cX3_sendDown 75 = .ok (.getfield 19, 3) := by decide +kernel
theorem dX3_sendDown_78 : decode cX3_sendDown 78 = .ok (.getfield 125, 3) := by decide +kernel
theorem dX3_sendDown_81 : decode cX3_sendDown 81 = .ok (.iload 4, 2) := by decide +kernel
theorem dX3_sendDown_83 : decode cX3_sendDown 83 = .ok (.iaload, 1) := by decide +kernel
theorem dX3_sendDown_84 : decode cX3_sendDown 84 = .ok (.istore 5, 2) := by decide +kernel
theorem dX3_sendDown_86 : decode cX3_sendDown 86 = .ok (.aload_n 0, 1) := by decide +kernel
theorem dX3_sendDown_87 : decode cX3_sendDown 87 = .ok (.getfield 36, 3) := by decide +kernel
theorem dX3_sendDown_90 : decode cX3_sendDown 90 = .ok (.iload 5, 2) := by decide +kernel
theorem dX3_sendDown_92 : decode cX3_sendDown 92 = .ok (.iaload, 1) := by decide +kernel
theorem dX3_sendDown_93 : decode cX3_sendDown 93 = .ok (.iload_n 1, 1) := by decide +kernel
theorem dX3_sendDown_94 : decode cX3_sendDown 94 = .ok (.if_icmp .ne 56, 3) := by decide +kernel
theorem dX3_sendDown_97 : decode cX3_sendDown 97 = .ok (.iload_n 3, 1) := by decide +kernel
theorem dX3_sendDown_98 : decode cX3_sendDown 98 = .ok (.iload_n 2, 1) := by decide +kernel
theorem dX3_sendDown_99 : decode cX3_sendDown 99 = .ok (.aload_n 0, 1) := by decide +kernel
theorem dX3_sendDown_100 : decode cX3_sendDown 100 = .ok (.getfield 27, 3) := by decide +kernel
theorem dX3_sendDown_103 : decode cX3_sendDown 103 = .ok (.iload_n 1, 1) := by decide +kernel
theorem dX3_sendDown_104 : decode cX3_sendDown 104 = .ok (.iaload, 1) := by decide +kernel
theorem dX3_sendDown_105 : decode cX3_sendDown 105 = .ok (.isub, 1) := by decide +kernel
theorem dX3_sendDown_106 : decode cX3_sendDown 106 = .ok (.if_icmp .lt 17, 3) := by decide +kernel
theorem dX3_sendDown_109 : decode cX3_sendDown 109 = .ok (.aload_n 0, 1) := by decide +kernel
theorem dX3_sendDown_110 : decode cX3_sendDown 110 = .ok (.iload_n 1, 1) := by decide +kernel
theorem dX3_sendDown_111 : decode cX3_sendDown 111 = .ok (.iconst 1, 1) := by decide +kernel
theorem dX3_sendDown_112 : decode cX3_sendDown 112 = .ok (.iload 5, 2) := by decide +kernel
theorem dX3_sendDown_114 : decode cX3_sendDown 114 = .ok (.iload_n 1, 1) := by decide +kernel
theorem dX3_sendDown_115 : decode cX3_sendDown 115 = .ok (.iconst 1, 1) := by decide +kernel
theorem dX3_sendDown_116 : decode cX3_sendDown 116 = .ok (.iadd, 1) := by decide +kernel
theorem dX3_sendDown_117 : decode cX3_sendDown 117 = .ok (.invokevirtual 128, 3) := by decide +kernel
theorem dX3_sendDown_120 : decode cX3_sendDown 120 = .ok (.goto 27, 3) := by decide +kernel
theorem dX3_sendDown_123 : decode cX3_sendDown 123 = .ok (.iload_n 3, 1) := by decide +kernel
theorem dX3_sendDown_124 : decode cX3_sendDown 124 = .ok (.iload_n 2, 1) := by decide +kernel
theorem dX3_sendDown_125 : decode cX3_sendDown 125 = .ok (.aload_n 0, 1) := by decide +kernel
theorem dX3_sendDown_126 : decode cX3_sendDown 126 = .ok (.getfield 9, 3) := by decide +kernel
theorem dX3_sendDown_129 : decode cX3_sendDown 129 = .ok (.getfield 104, 3) := by decide +kernel
theorem dX3_sendDown_132 : decode cX3_sendDown 132 = .ok (.iload_n 1, 1) := by decide +kernel
theorem dX3_sendDown_133 : decode cX3_sendDown 133 = .ok (.iaload, 1) := by decide +kernel
theorem dX3_sendDown_134 : decode cX3_sendDown 134 = .ok (.isub, 1) := by decide +kernel
theorem dX3_sendDown_135 : decode cX3_sendDown 135 = .ok (.if_icmp .lt 12, 3) := by decide +kernel
theorem dX3_sendDown_138 : decode cX3_sendDown 138 = .ok (.aload_n 0, 1) := by decide +kernel
theorem dX3_sendDown_139 : decode cX3_sendDown 139 = .ok (.iload_n 1, 1) := by decide +kernel
theorem dX3_sendDown_140 : decode cX3_sendDown 140 = .ok (.iconst 2, 1) := by decide +kernel
theorem dX3_sendDown_141 : decode cX3_sendDown 141 = .ok (.iload 5, 2) := by decide +kernel
theorem dX3_sendDown_143 : decode cX3_sendDown 143 = .ok (.iload_n 1, 1) := by decide +kernel
theorem dX3_sendDown_144 : decode cX3_sendDown 144 = .ok (.invokevirtual 128, 3) := by decide +kernel
theorem dX3_sendDown_147 : decode cX3_sendDown 147 = .ok (.iinc 3 1, 3) := by decide +kernel
theorem dX3_sendDown_150 : decode cX3_sendDown 150 = .ok (.iinc 4 1, 3) := by decide +kernel
theorem dX3_sendDown_153 : decode cX3_sendDown 153 = .ok (.goto (-91), 3) := by decide +kernel
theorem dX3_sendDown_156 : decode cX3_sendDown 156 = .ok (.aload_n 0, 1) := by decide +kernel
theorem dX3_sendDown_157 : decode cX3_sendDown 157 = .ok (.iload_n 1, 1) := by decide +kernel
theorem dX3_sendDown_158 : decode cX3_sendDown 158 = .ok (.iconst 1, 1) := by decide +kernel
theorem dX3_sendDown_159 : decode cX3_sendDown 159 = .ok (.invokevirtual 72, 3) := by decide +kernel
theorem dX3_sendDown_162 : decode cX3_sendDown 162 = .ok (.aload_n 0, 1) := by decide +kernel
theorem dX3_sendDown_163 : decode cX3_sendDown 163 = .ok (.getfield 27, 3) := by decide +kernel
theorem dX3_sendDown_166 : decode cX3_sendDown 166 = .ok (.iload_n 1, 1) := by decide +kernel
theorem dX3_sendDown_167 : decode cX3_sendDown 167 = .ok (.iaload, 1) := by decide +kernel
theorem dX3_sendDown_168 : decode cX3_sendDown 168 = .ok (.if_icmp .ne 7, 3) := by decide +kernel
theorem dX3_sendDown_171 : decode cX3_sendDown 171 = .ok (.iconst 1, 1) := by decide +kernel
theorem dX3_sendDown_172 : decode cX3_sendDown 172 = .ok (.goto 4, 3) := by decide +kernel
theorem dX3_sendDown_175 : decode cX3_sendDown 175 = .ok (.iconst 0, 1) := by decide +kernel
theorem dX3_sendDown_176 : decode cX3_sendDown 176 = .ok (.ireturn, 1) := by decide +kernel
theorem dX3_bringIn_0 : decode cX3_bringIn 0 = .ok (.aload_n 0, 1) := by decide +kernel
theorem dX3_bringIn_1 : decode cX3_bringIn 1 = .ok (.iload_n 1, 1) := by decide +kernel
theorem dX3_bringIn_2 : decode cX3_bringIn 2 = .ok (.invokevirtual 100, 3) := by decide +kernel
theorem dX3_bringIn_5 : decode cX3_bringIn 5 = .ok (.istore_n 2, 1) := by decide +kernel
theorem dX3_bringIn_6 : decode cX3_bringIn 6 = .ok (.iconst 0, 1) := by decide +kernel
theorem dX3_bringIn_7 : decode cX3_bringIn 7 = .ok (.istore_n 3, 1) := by decide +kernel
theorem dX3_bringIn_8 : decode cX3_bringIn 8 = .ok (.iload_n 3, 1) := by decide +kernel
theorem dX3_bringIn_9 : decode cX3_bringIn 9 = .ok (.aload_n 0, 1) := by decide +kernel
theorem dX3_bringIn_10 : decode cX3_bringIn 10 = .ok (.getfield 9, 3) := by decide +kernel
theorem dX3_bringIn_13 : decode cX3_bringIn 13 = .ok (.getfield 39, 3) := by decide +kernel
theorem dX3_bringIn_16 : decode cX3_bringIn 16 = .ok (.if_icmp .ge 40, 3) := by decide +kernel
theorem dX3_bringIn_19 : decode cX3_bringIn 19 = .ok (.aload_n 0, 1) := by decide +kernel
theorem dX3_bringIn_20 : decode cX3_bringIn 20 = .ok (.iload_n 1, 1) := by decide +kernel
theorem dX3_bringIn_21 : decode cX3_bringIn 21 = .ok (.iconst 3, 1) := by decide +kernel
theorem dX3_bringIn_22 : decode cX3_bringIn 22 = .ok (.invokevirtual 72, 3) := by decide +kernel
theorem dX3_bringIn_25 : decode cX3_bringIn 25 = .ok (.iload_n 2, 1) := by decide +kernel
theorem dX3_bringIn_26 : decode cX3_bringIn 26 = .ok (.if_icmp .ge 30, 3) := by decide +kernel
theorem dX3_bringIn_29 : decode cX3_bringIn 29 = .ok (.aload_n 0, 1) := by decide +kernel
theorem dX3_bringIn_30 : decode cX3_bringIn 30 = .ok (.getfield 9, 3) := by decide +kernel
theorem dX3_bringIn_33 : decode cX3_bringIn 33 = .ok (.getfield 54, 3) := by decide +kernel
theorem dX3_bringIn_36 : decode cX3_bringIn 36 = .ok (.iload_n 3, 1) := by decide +kernel
theorem dX3_bringIn_37 : decode cX3_bringIn 37 = .ok (.iaload, 1) := by decide +kernel
theorem dX3_bringIn_38 : decode cX3_bringIn 38 = .ok (.iconst (-1), 1) := by decide +kernel
theorem dX3_bringIn_39 : decode cX3_bringIn 39 = .ok (.if_icmp .ne 11, 3) := by decide +kernel
theorem dX3_bringIn_42 : decode cX3_bringIn 42 = .ok (.aload_n 0, 1) := by decide +kernel
theorem dX3_bringIn_43 : decode cX3_bringIn 43 = .ok (.iload_n 1, 1) := by decide +kernel
theorem dX3_bringIn_44 : decode cX3_bringIn 44 = .ok (.iconst 3, 1) := by decide +kernel
theorem dX3_bringIn_45 : decode cX3_bringIn 45 = .ok (.iload_n 3, 1) := by decide +kernel
theorem dX3_bringIn_46 : decode cX3_bringIn 46 = .ok (.iload_n 1, 1) := by decide +kernel
theorem dX3_bringIn_47 : decode cX3_bringIn 47 = .ok (.invokevirtual 128, 3) := by decide +kernel
theorem dX3_bringIn_50 : decode cX3_bringIn 50 = .ok (.iinc 3 1, 3) := by decide +kernel
theorem dX3_bringIn_53 : decode cX3_bringIn 53 = .ok (.goto (-45), 3) := by decide +kernel
theorem dX3_bringIn_56 : decode cX3_bringIn 56 = .ok (.aload_n 0, 1) := by decide +kernel
theorem dX3_bringIn_57 : decode cX3_bringIn 57 = .ok (.iload_n 1, 1) := by decide +kernel
theorem dX3_bringIn_58 : decode cX3_bringIn 58 = .ok (.iconst 3, 1) := by decide +kernel
theorem dX3_bringIn_59 : decode cX3_bringIn 59 = .ok (.invokevirtual 72, 3) := by decide +kernel
theorem dX3_bringIn_62 : decode cX3_bringIn 62 = .ok (.iload_n 2, 1) := by decide +kernel
theorem dX3_bringIn_63 : decode cX3_bringIn 63 = .ok (.if_icmp .ne 7, 3) := by decide +kernel
theorem dX3_bringIn_66 : decode cX3_bringIn 66 = .ok (.iconst 1, 1) := by decide +kernel
theorem dX3_bringIn_67 : decode cX3_bringIn 67 = .ok (.goto 4, 3) := by decide +kernel
theorem dX3_bringIn_70 : decode cX3_bringIn 70 = .ok (.iconst 0, 1) := by decide +kernel
theorem dX3_bringIn_71 : decode cX3_bringIn 71 = .ok (.ireturn, 1) := by decide +kernel
theorem dX3_risesWith_0 : decode cX3_risesWith 0 = .ok (.aload_n 0, 1) := by decide +kernel
theorem dX3_risesWith_1 : decode cX3_risesWith 1 = .ok (.getfield 9, 3) := by decide +kernel
theorem dX3_risesWith_4 : decode cX3_risesWith 4 = .ok (.getfield 60, 3) := by decide +kernel
theorem dX3_risesWith_7 : decode cX3_risesWith 7 = .ok (.iload_n 1, 1) := by decide +kernel
theorem dX3_risesWith_8 : decode cX3_risesWith 8 = .ok (.iaload, 1) := by decide +kernel
theorem dX3_risesWith_9 : decode cX3_risesWith 9 = .ok (.istore_n 3, 1) := by decide +kernel
theorem dX3_risesWith_10 : decode cX3_risesWith 10 = .ok (.aload_n 0, 1) := by decide +kernel
theorem dX3_risesWith_11 : decode cX3_risesWith 11 = .ok (.getfield 9, 3) := by decide +kernel
theorem dX3_risesWith_14 : decode cX3_risesWith 14 = .ok (.getfield 60, 3) := by decide +kernel
theorem dX3_risesWith_17 : decode cX3_risesWith 17 = .ok (.iload_n 1, 1) := by decide +kernel
theorem dX3_risesWith_18 : decode cX3_risesWith 18 = .ok (.iload_n 2, 1) := by decide +kernel
theorem dX3_risesWith_19 : decode cX3_risesWith 19 = .ok (.iastore, 1) := by decide +kernel
theorem dX3_risesWith_20 : decode cX3_risesWith 20 = .ok (.aload_n 0, 1) := by decide +kernel
theorem dX3_risesWith_21 : decode cX3_risesWith 21 = .ok (.invokevirtual 132, 3) := by decide +kernel
theorem dX3_risesWith_24 : decode cX3_risesWith 24 = .ok (.ifCond .eq 27, 3) := by decide +kernel
theorem dX3_risesWith_27 : decode cX3_risesWith 27 = .ok (.aload_n 0, 1) := by decide +kernel
theorem dX3_risesWith_28 : decode cX3_risesWith 28 = .ok (.getfield 36, 3) := by decide +kernel
theorem dX3_risesWith_31 : decode cX3_risesWith 31 = .ok (.iload_n 1, 1) := by decide +kernel
theorem dX3_risesWith_32 : decode cX3_risesWith 32 = .ok (.iaload, 1) := by decide +kernel
theorem dX3_risesWith_33 : decode cX3_risesWith 33 = .ok (.aload_n 0, 1) := by decide +kernel
theorem dX3_risesWith_34 : decode cX3_risesWith 34 = .ok (.getfield 9, 3) := by decide +kernel
theorem dX3_risesWith_37 : decode cX3_risesWith 37 = .ok (.getfield 54, 3) := by decide +kernel
theorem dX3_risesWith_40 : decode cX3_risesWith 40 = .ok (.iload_n 1, 1) := by decide +kernel
theorem dX3_risesWith_41 : decode cX3_risesWith 41 = .ok (.iaload, 1) := by decide +kernel
theorem dX3_risesWith_42 : decode cX3_risesWith 42 = .ok (.iconst 1, 1) := by decide +kernel
theorem dX3_risesWith_43 : decode cX3_risesWith 43 = .ok (.isub, 1) := by decide +kernel
theorem dX3_risesWith_44 : decode cX3_risesWith 44 = .ok (.if_icmp .ne 7, 3) := by decide +kernel
theorem dX3_risesWith_47 : decode cX3_risesWith 47 = .ok (.iconst 1, 1) := by decide +kernel
theorem dX3_risesWith_48 : decode cX3_risesWith 48 = .ok (.goto 4, 3) := by decide +kernel
theorem dX3_risesWith_51 : decode cX3_risesWith 51 = .ok (.iconst 0, 1) := by decide +kernel
theorem dX3_risesWith_52 : decode cX3_risesWith 52 = .ok (.istore 4, 2) := by decide +kernel
theorem dX3_risesWith_54 : decode cX3_risesWith 54 = .ok (.aload_n 0, 1) := by decide +kernel
theorem dX3_risesWith_55 : decode cX3_risesWith 55 = .ok (.getfield 9, 3) := by decide +kernel
theorem dX3_risesWith_58 : decode cX3_risesWith 58 = .ok (.getfield 60, 3) := by decide +kernel
theorem dX3_risesWith_61 : decode cX3_risesWith 61 = .ok (.iload_n 1, 1) := by decide +kernel
theorem dX3_risesWith_62 : decode cX3_risesWith 62 = .ok (.iload_n 3, 1) := by decide +kernel
theorem dX3_risesWith_63 : decode cX3_risesWith 63 = .ok (.iastore, 1) := by decide +kernel
theorem dX3_risesWith_64 : decode cX3_risesWith 64 = .ok (.iload 4, 2) := by decide +kernel
theorem dX3_risesWith_66 : decode cX3_risesWith 66 = .ok (.ireturn, 1) := by decide +kernel
theorem dX3_moveClubs_0 : decode cX3_moveClubs 0 = .ok (.iconst 0, 1) := by decide +kernel
theorem dX3_moveClubs_1 : decode cX3_moveClubs 1 = .ok (.istore_n 1, 1) := by decide +kernel
theorem dX3_moveClubs_2 : decode cX3_moveClubs 2 = .ok (.iload_n 1, 1) := by decide +kernel
theorem dX3_moveClubs_3 : decode cX3_moveClubs 3 = .ok (.aload_n 0, 1) := by decide +kernel
theorem dX3_moveClubs_4 : decode cX3_moveClubs 4 = .ok (.getfield 9, 3) := by decide +kernel
theorem dX3_moveClubs_7 : decode cX3_moveClubs 7 = .ok (.getfield 39, 3) := by decide +kernel
theorem dX3_moveClubs_10 : decode cX3_moveClubs 10 = .ok (.if_icmp .ge 24, 3) := by decide +kernel
theorem dX3_moveClubs_13 : decode cX3_moveClubs 13 = .ok (.aload_n 0, 1) := by decide +kernel
theorem dX3_moveClubs_14 : decode cX3_moveClubs 14 = .ok (.getfield 9, 3) := by decide +kernel
theorem dX3_moveClubs_17 : decode cX3_moveClubs 17 = .ok (.getfield 54, 3) := by decide +kernel
theorem dX3_moveClubs_20 : decode cX3_moveClubs 20 = .ok (.iload_n 1, 1) := by decide +kernel
theorem dX3_moveClubs_21 : decode cX3_moveClubs 21 = .ok (.aload_n 0, 1) := by decide +kernel
theorem dX3_moveClubs_22 : decode cX3_moveClubs 22 = .ok (.getfield 36, 3) := by decide +kernel
theorem dX3_moveClubs_25 : decode cX3_moveClubs 25 = .ok (.iload_n 1, 1) := by decide +kernel
theorem dX3_moveClubs_26 : decode cX3_moveClubs 26 = .ok (.iaload, 1) := by decide +kernel
theorem dX3_moveClubs_27 : decode cX3_moveClubs 27 = .ok (.iastore, 1) := by decide +kernel
theorem dX3_moveClubs_28 : decode cX3_moveClubs 28 = .ok (.iinc 1 1, 3) := by decide +kernel
theorem dX3_moveClubs_31 : decode cX3_moveClubs 31 = .ok (.goto (-29), 3) := by decide +kernel
theorem dX3_moveClubs_34 : decode cX3_moveClubs 34 = .ok (.return_, 1) := by decide +kernel
theorem dX4_init_0 : decode cX4_init 0 = .ok (.aload_n 0, 1) := by decide +kernel
theorem dX4_init_1 : decode cX4_init 1 = .ok (.invokespecial 3, 3) := by decide +kernel
theorem dX4_init_4 : decode cX4_init 4 = .ok (.aload_n 0, 1) := by decide +kernel
theorem dX4_init_5 : decode cX4_init 5 = .ok (.aload_n 1, 1) := by decide +kernel
theorem dX4_init_6 : decode cX4_init 6 = .ok (.putfield 9, 3) := by decide +kernel
theorem dX4_init_9 : decode cX4_init 9 = .ok (.aload_n 0, 1) := by decide +kernel
theorem dX4_init_10 : decode cX4_init 10 = .ok (.aload_n 2, 1) := by decide +kernel
theorem dX4_init_11 : decode cX4_init 11 = .ok (.putfield 15, 3) := by decide +kernel
theorem dX4_init_14 : decode cX4_init 14 = .ok (.aload_n 0, 1) := by decide +kernel
theorem dX4_init_15 : decode cX4_init 15 = .ok (.iconst 4, 1) := by decide +kernel
theorem dX4_init_16 : decode cX4_init 16 = .ok (.newarray .int, 2) := by decide +kernel
theorem dX4_init_18 : decode cX4_init 18 = .ok (.putfield 19, 3) := by decide +kernel
theorem dX4_init_21 : decode cX4_init 21 = .ok (.aload_n 0, 1) := by decide +kernel
theorem dX4_init_22 : decode cX4_init 22 = .ok (.iconst 4, 1) := by decide +kernel
theorem dX4_init_23 : decode cX4_init 23 = .ok (.newarray .int, 2) := by decide +kernel
theorem dX4_init_25 : decode cX4_init 25 = .ok (.putfield 23, 3) := by decide +kernel
theorem dX4_init_28 : decode cX4_init 28 = .ok (.aload_n 0, 1) := by decide +kernel
theorem dX4_init_29 : decode cX4_init 29 = .ok (.bipush 30, 2) := by decide +kernel
theorem dX4_init_31 : decode cX4_init 31 = .ok (.newarray .int, 2) := by decide +kernel
theorem dX4_init_33 : decode cX4_init 33 = .ok (.putfield 26, 3) := by decide +kernel
theorem dX4_init_36 : decode cX4_init 36 = .ok (.aload_n 0, 1) := by decide +kernel
theorem dX4_init_37 : decode cX4_init 37 = .ok (.bipush 12, 2) := by decide +kernel
theorem dX4_init_39 : decode cX4_init 39 = .ok (.newarray .int, 2) := by decide +kernel
theorem dX4_init_41 : decode cX4_init 41 = .ok (.putfield 29, 3) := by decide +kernel
theorem dX4_init_44 : decode cX4_init 44 = .ok (.aload_n 0, 1) := by decide +kernel
theorem dX4_init_45 : decode cX4_init 45 = .ok (.bipush 12, 2) := by decide +kernel
theorem dX4_init_47 : decode cX4_init 47 = .ok (.newarray .int, 2) := by decide +kernel
theorem dX4_init_49 : decode cX4_init 49 = .ok (.putfield 32, 3) := by decide +kernel
theorem dX4_init_52 : decode cX4_init 52 = .ok (.aload_n 0, 1) := by decide +kernel
theorem dX4_init_53 : decode cX4_init 53 = .ok (.sipush 924, 3) := by decide +kernel
theorem dX4_init_56 : decode cX4_init 56 = .ok (.newarray .int, 2) := by decide +kernel
theorem dX4_init_58 : decode cX4_init 58 = .ok (.putfield 35, 3) := by decide +kernel
theorem dX4_init_61 : decode cX4_init 61 = .ok (.aload_n 0, 1) := by decide +kernel
theorem dX4_init_62 : decode cX4_init 62 = .ok (.sipush 4096, 3) := by decide +kernel
theorem dX4_init_65 : decode cX4_init 65 = .ok (.newarray .int, 2) := by decide +kernel
theorem dX4_init_67 : decode cX4_init 67 = .ok (.putfield 38, 3) := by decide +kernel
theorem dX4_init_70 : decode cX4_init 70 = .ok (.aload_n 0, 1) := by decide +kernel
theorem dX4_init_71 : decode cX4_init 71 = .ok (.bipush 13, 2) := by decide +kernel
theorem dX4_init_73 : decode cX4_init 73 = .ok (.newarray .int, 2) := by decide +kernel
theorem dX4_init_75 : decode cX4_init 75 = .ok (.putfield 41, 3) := by decide +kernel
theorem dX4_init_78 : decode cX4_init 78 = .ok (.aload_n 0, 1) := by decide +kernel
theorem dX4_init_79 : decode cX4_init 79 = .ok (.iconst 3, 1) := by decide +kernel
theorem dX4_init_80 : decode cX4_init 80 = .ok (.newarray .int, 2) := by decide +kernel
theorem dX4_init_82 : decode cX4_init 82 = .ok (.putfield 44, 3) := by decide +kernel
theorem dX4_init_85 : decode cX4_init 85 = .ok (.aload_n 0, 1) := by decide +kernel
theorem dX4_init_86 : decode cX4_init 86 = .ok (.iconst 3, 1) := by decide +kernel
theorem dX4_init_87 : decode cX4_init 87 = .ok (.newarray .int, 2) := by decide +kernel
theorem dX4_init_89 : decode cX4_init 89 = .ok (.putfield 47, 3) := by decide +kernel
theorem dX4_init_92 : decode cX4_init 92 = .ok (.return_, 1) := by decide +kernel
theorem dX4_forgetAll_0 : decode cX4_forgetAll 0 = .ok (.aload_n 0, 1) := by decide +kernel
theorem dX4_forgetAll_1 : decode cX4_forgetAll 1 = .ok (.getfield 19, 3) := by decide +kernel
theorem dX4_forgetAll_4 : decode cX4_forgetAll 4 = .ok (.iconst 0, 1) := by decide +kernel
theorem dX4_forgetAll_5 : decode cX4_forgetAll 5 = .ok (.invokestatic 50, 3) := by decide +kernel
theorem dX4_forgetAll_8 : decode cX4_forgetAll 8 = .ok (.return_, 1) := by decide +kernel
theorem dX4_forgetChanged_0 : decode cX4_forgetChanged 0 = .ok (.iconst 0, 1) := by decide +kernel
theorem dX4_forgetChanged_1 : decode cX4_forgetChanged 1 = .ok (.istore_n 2, 1) := by decide +kernel
theorem dX4_forgetChanged_2 : decode cX4_forgetChanged 2 = .ok (.iload_n 2, 1) := by decide +kernel
theorem dX4_forgetChanged_3 : decode cX4_forgetChanged 3 = .ok (.aload_n 0, 1) := by decide +kernel
theorem dX4_forgetChanged_4 : decode cX4_forgetChanged 4 = .ok (.getfield 9, 3) := by decide +kernel
theorem dX4_forgetChanged_7 : decode cX4_forgetChanged 7 = .ok (.getfield 56, 3) := by decide +kernel
theorem dX4_forgetChanged_10 : decode cX4_forgetChanged 10 = .ok (.if_icmp .ge 50, 3) := by decide +kernel
theorem dX4_forgetChanged_13 : decode cX4_forgetChanged 13 = .ok (.iload_n 2, 1) := by decide +kernel
theorem dX4_forgetChanged_14 : decode cX4_forgetChanged 14 = .ok (.aload_n 1, 1) := by decide +kernel
theorem dX4_forgetChanged_15 : decode cX4_forgetChanged 15 = .ok (.arraylength, 1) := by decide +kernel
theorem dX4_forgetChanged_16 : decode cX4_forgetChanged 16 = .ok (.if_icmp .ge 44, 3) := by decide +kernel
theorem dX4_forgetChanged_19 : decode cX4_forgetChanged 19 = .ok (.aload_n 1, 1) := by decide +kernel
theorem dX4_forgetChanged_20 : decode cX4_forgetChanged 20 = .ok (.iload_n 2, 1) := by decide +kernel
theorem dX4_forgetChanged_21 : decode cX4_forgetChanged 21 = .ok (.iaload, 1) := by decide +kernel
theorem dX4_forgetChanged_22 : decode cX4_forgetChanged 22 = .ok (.aload_n 0, 1) := by decide +kernel
theorem dX4_forgetChanged_23 : decode cX4_forgetChanged 23 = .ok (.getfield 9, 3) := by decide +kernel
theorem dX4_forgetChanged_26 : decode cX4_forgetChanged 26 = .ok (.getfield 62, 3) := by decide +kernel
theorem dX4_forgetChanged_29 : decode cX4_forgetChanged 29 = .ok (.iload_n 2, 1) := by decide +kernel
theorem dX4_forgetChanged_30 : decode cX4_forgetChanged 30 = .ok (.iaload, 1) := by decide +kernel
theorem dX4_forgetChanged_31 : decode cX4_forgetChanged 31 = .ok (.if_icmp .eq 23, 3) := by decide +kernel
theorem dX4_forgetChanged_34 : decode cX4_forgetChanged 34 = .ok (.aload_n 0, 1) := by decide +kernel
theorem dX4_forgetChanged_35 : decode cX4_forgetChanged 35 = .ok (.aload_n 1, 1) := by decide +kernel
theorem dX4_forgetChanged_36 : decode cX4_forgetChanged 36 = .ok (.iload_n 2, 1) := by decide +kernel
theorem dX4_forgetChanged_37 : decode cX4_forgetChanged 37 = .ok (.iaload, 1) := by decide +kernel
theorem dX4_forgetChanged_38 : decode cX4_forgetChanged 38 = .ok (.invokevirtual 65, 3) := by decide +kernel
theorem dX4_forgetChanged_41 : decode cX4_forgetChanged 41 = .ok (.aload_n 0, 1) := by decide +kernel
theorem dX4_forgetChanged_42 : decode cX4_forgetChanged 42 = .ok (.aload_n 0, 1) := by decide +kernel
theorem dX4_forgetChanged_43 : decode cX4_forgetChanged 43 = .ok (.getfield 9, 3) := by decide +kernel
theorem dX4_forgetChanged_46 : decode cX4_forgetChanged 46 = .ok (.getfield 62, 3) := by decide +kernel
theorem dX4_forgetChanged_49 : decode cX4_forgetChanged 49 = .ok (.iload_n 2, 1) := by decide +kernel
theorem dX4_forgetChanged_50 : decode cX4_forgetChanged 50 = .ok (.iaload, 1) := by decide +kernel
theorem dX4_forgetChanged_51 : decode cX4_forgetChanged 51 = .ok (.invokevirtual 65, 3) := by decide +kernel
theorem dX4_forgetChanged_54 : decode cX4_forgetChanged 54 = .ok (.iinc 2 1, 3) := by decide +kernel
theorem dX4_forgetChanged_57 : decode cX4_forgetChanged 57 = .ok (.goto (-55), 3) := by decide +kernel
theorem dX4_forgetChanged_60 : decode cX4_forgetChanged 60 = .ok (.return_, 1) := by decide +kernel
theorem dX4_forgetLevel_0 : decode cX4_forgetLevel 0 = .ok (.aload_n 0, 1) := by decide +kernel
theorem dX4_forgetLevel_1 : decode cX4_forgetLevel 1 = .ok (.getfield 9, 3) := by decide +kernel
theorem dX4_forgetLevel_4 : decode cX4_forgetLevel 4 = .ok (.iload_n 1, 1) := by decide +kernel
theorem dX4_forgetLevel_5 : decode cX4_forgetLevel 5 = .ok (.invokevirtual 69, 3) := by decide +kernel
theorem dX4_forgetLevel_8 : decode cX4_forgetLevel 8 = .ok (.ifCond .eq 10, 3) := by decide +kernel
theorem dX4_forgetLevel_11 : decode cX4_forgetLevel 11 = .ok (.aload_n 0, 1) := by decide +kernel
theorem dX4_forgetLevel_12 : decode cX4_forgetLevel 12 = .ok (.getfield 19, 3) := by decide +kernel
theorem dX4_forgetLevel_15 : decode cX4_forgetLevel 15 = .ok (.iload_n 1, 1) := by decide +kernel
theorem dX4_forgetLevel_16 : decode cX4_forgetLevel 16 = .ok (.iconst 0, 1) := by decide +kernel
theorem dX4_forgetLevel_17 : decode cX4_forgetLevel 17 = .ok (.iastore, 1) := by decide +kernel
theorem dX4_forgetLevel_18 : decode cX4_forgetLevel 18 = .ok (.return_, 1) := by decide +kernel
theorem dX4_settle_0 : decode cX4_settle 0 = .ok (.iconst 0, 1) := by decide +kernel
theorem dX4_settle_1 : decode cX4_settle 1 = .ok (.istore_n 1, 1) := by decide +kernel
theorem dX4_settle_2 : decode cX4_settle 2 = .ok (.iload_n 1, 1) := by decide +kernel
theorem dX4_settle_3 : decode cX4_settle 3 = .ok (.aload_n 0, 1) := by decide +kernel
theorem dX4_settle_4 : decode cX4_settle 4 = .ok (.getfield 9, 3) := by decide +kernel
theorem dX4_settle_7 : decode cX4_settle 7 = .ok (.getfield 73, 3) := by decide +kernel
theorem dX4_settle_10 : decode cX4_settle 10 = .ok (.if_icmp .ge 14, 3) := by decide +kernel
theorem dX4_settle_13 : decode cX4_settle 13 = .ok (.aload_n 0, 1) := by decide +kernel
theorem dX4_settle_14 : decode cX4_settle 14 = .ok (.iload_n 1, 1) := by decide +kernel
theorem dX4_settle_15 : decode cX4_settle 15 = .ok (.invokevirtual 76, 3) := by decide +kernel
theorem dX4_settle_18 : decode cX4_settle 18 = .ok (.iinc 1 1, 3) := by decide +kernel
theorem dX4_settle_21 : decode cX4_settle 21 = .ok (.goto (-19), 3) := by decide +kernel
theorem dX4_settle_24 : decode cX4_settle 24 = .ok (.iconst 0, 1) := by decide +kernel
theorem dX4_settle_25 : decode cX4_settle 25 = .ok (.istore_n 1, 1) := by decide +kernel
theorem dX4_settle_26 : decode cX4_settle 26 = .ok (.iload_n 1, 1) := by decide +kernel
theorem dX4_settle_27 : decode cX4_settle 27 = .ok (.aload_n 0, 1) := by decide +kernel
theorem dX4_settle_28 : decode cX4_settle 28 = .ok (.getfield 9, 3) := by decide +kernel
theorem dX4_settle_31 : decode cX4_settle 31 = .ok (.getfield 56, 3) := by decide +kernel
theorem dX4_settle_34 : decode cX4_settle 34 = .ok (.if_icmp .ge 39, 3) := by decide +kernel
theorem dX4_settle_37 : decode cX4_settle 37 = .ok (.aload_n 0, 1) := by decide +kernel
theorem dX4_settle_38 : decode cX4_settle 38 = .ok (.getfield 9, 3) := by decide +kernel
theorem dX4_settle_41 : decode cX4_settle 41 = .ok (.getfield 79, 3) := by decide +kernel
theorem dX4_settle_44 : decode cX4_settle 44 = .ok (.iload_n 1, 1) := by decide +kernel
theorem dX4_settle_45 : decode cX4_settle 45 = .ok (.aload_n 0, 1) := by decide +kernel
theorem dX4_settle_46 : decode cX4_settle 46 = .ok (.getfield 9, 3) := by decide +kernel
theorem dX4_settle_49 : decode cX4_settle 49 = .ok (.iload_n 1, 1) := by decide +kernel
theorem dX4_settle_50 : decode cX4_settle 50 = .ok (.invokevirtual 82, 3) := by decide +kernel
theorem dX4_settle_53 : decode cX4_settle 53 = .ok (.ifCond .eq 12, 3) := by decide +kernel
theorem dX4_settle_56 : decode cX4_settle 56 = .ok (.aload_n 0, 1) := by decide +kernel
theorem dX4_settle_57 : decode cX4_settle 57 = .ok (.getfield 26, 3) := by decide +kernel
theorem dX4_settle_60 : decode cX4_settle 60 = .ok (.iload_n 1, 1) := by decide +kernel
theorem dX4_settle_61 : decode cX4_settle 61 = .ok (.iaload, 1) := by decide +kernel
theorem dX4_settle_62 : decode cX4_settle 62 = .ok (.goto 4, 3) := by decide +kernel
theorem dX4_settle_65 : decode cX4_settle 65 = .ok (.iconst (-1), 1) := by decide +kernel
theorem dX4_settle_66 : decode cX4_settle 66 = .ok (.iastore, 1) := by decide +kernel
theorem dX4_settle_67 : decode cX4_settle 67 = .ok (.iinc 1 1, 3) := by decide +kernel
theorem dX4_settle_70 : decode cX4_settle 70 = .ok (.goto (-44), 3) := by decide +kernel
theorem dX4_settle_73 : decode cX4_settle 73 = .ok (.return_, 1) := by decide +kernel
theorem dX4_partAnew_0 : decode cX4_partAnew 0 = .ok (.aload_n 0, 1) := by decide +kernel
theorem dX4_partAnew_1 : decode cX4_partAnew 1 = .ok (.getfield 19, 3) := by decide +kernel
theorem dX4_partAnew_4 : decode cX4_partAnew 4 = .ok (.iload_n 1, 1) := by decide +kernel
theorem dX4_partAnew_5 : decode cX4_partAnew 5 = .ok (.iaload, 1) := by decide +kernel
theorem dX4_partAnew_6 : decode cX4_partAnew 6 = .ok (.ifCond .eq 4, 3) := by decide +kernel
theorem dX4_partAnew_9 : decode cX4_partAnew 9 = .ok (.return_, 1) := by decide +kernel
theorem dX4_partAnew_10 : decode cX4_partAnew 10 = .ok (.aload_n 0, 1) := by decide +kernel
theorem dX4_partAnew_11 : decode cX4_partAnew 11 = .ok (.aload_n 0, 1) := by decide +kernel
theorem dX4_partAnew_12 : decode cX4_partAnew 12 = .ok (.getfield 9, 3) := by decide +kernel
theorem dX4_partAnew_15 : decode cX4_partAnew 15 = .ok (.iload_n 1, 1) := by decide +kernel
theorem dX4_partAnew_16 : decode cX4_partAnew 16 = .ok (.aload_n 0, 1) := by decide +kernel
theorem dX4_partAnew_17 : decode cX4_partAnew 17 = .ok (.getfield 29, 3) := by decide +kernel
theorem dX4_partAnew_20 : decode cX4_partAnew 20 = .ok (.invokevirtual 85, 3) := by decide +kernel
theorem dX4_partAnew_23 : decode cX4_partAnew 23 = .ok (.putfield 89, 3) := by decide +kernel
theorem dX4_partAnew_26 : decode cX4_partAnew 26 = .ok (.aload_n 0, 1) := by decide +kernel
theorem dX4_partAnew_27 : decode cX4_partAnew 27 = .ok (.aload_n 0, 1) := by decide +kernel
theorem dX4_partAnew_28 : decode cX4_partAnew 28 = .ok (.getfield 9, 3) := by decide +kernel
theorem dX4_partAnew_31 : decode cX4_partAnew 31 = .ok (.getfield 92, 3) := by decide +kernel
theorem dX4_partAnew_34 : decode cX4_partAnew 34 = .ok (.iload_n 1, 1) := by decide +kernel
theorem dX4_partAnew_35 : decode cX4_partAnew 35 = .ok (.iaload, 1) := by decide +kernel
theorem dX4_partAnew_36 : decode cX4_partAnew 36 = .ok (.putfield 95, 3) := by decide +kernel
theorem dX4_partAnew_39 : decode cX4_partAnew 39 = .ok (.aload_n 0, 1) := by decide +kernel
theorem dX4_partAnew_40 : decode cX4_partAnew 40 = .ok (.aload_n 0, 1) := by decide +kernel
theorem dX4_partAnew_41 : decode cX4_partAnew 41 = .ok (.getfield 9, 3) := by decide +kernel
theorem dX4_partAnew_44 : decode cX4_partAnew 44 = .ok (.getfield 97, 3) := by decide +kernel
theorem dX4_partAnew_47 : decode cX4_partAnew 47 = .ok (.iload_n 1, 1) := by decide +kernel
theorem dX4_partAnew_48 : decode cX4_partAnew 48 = .ok (.iaload, 1) := by decide +kernel
theorem dX4_partAnew_49 : decode cX4_partAnew 49 = .ok (.putfield 100, 3) := by decide +kernel
theorem dX4_partAnew_52 : decode cX4_partAnew 52 = .ok (.aload_n 0, 1) := by decide +kernel
theorem dX4_partAnew_53 : decode cX4_partAnew 53 = .ok (.iconst 0, 1) := by decide +kernel
theorem dX4_partAnew_54 : decode cX4_partAnew 54 = .ok (.putfield 102, 3) := by decide +kernel
theorem dX4_partAnew_57 : decode cX4_partAnew 57 = .ok (.aload_n 0, 1) := by decide +kernel
theorem dX4_partAnew_58 : decode cX4_partAnew 58 = .ok (.iconst 0, 1) := by decide +kernel
theorem dX4_partAnew_59 : decode cX4_partAnew 59 = .ok (.iconst 0, 1) := by decide +kernel
theorem dX4_partAnew_60 : decode cX4_partAnew 60 = .ok (.iconst 0, 1) := by decide +kernel
theorem dX4_partAnew_61 : decode cX4_partAnew 61 = .ok (.iconst 0, 1) := by decide +kernel
theorem dX4_partAnew_62 : decode cX4_partAnew 62 = .ok (.invokevirtual 105, 3) := by decide +kernel
theorem dX4_partAnew_65 : decode cX4_partAnew 65 = .ok (.aload_n 0, 1) := by decide +kernel
theorem dX4_partAnew_66 : decode cX4_partAnew 66 = .ok (.ldc 111, 2) := by decide +kernel
theorem dX4_partAnew_68 : decode cX4_partAnew 68 = .ok (.putfield 112, 3) := by decide +kernel
theorem dX4_partAnew_71 : decode cX4_partAnew 71 = .ok (.aload_n 0, 1) := by decide +kernel
theorem dX4_partAnew_72 : decode cX4_partAnew 72 = .ok (.iconst 0, 1) := by decide +kernel
theorem dX4_partAnew_73 : decode cX4_partAnew 73 = .ok (.iconst 1, 1) := by decide +kernel
theorem dX4_partAnew_74 : decode cX4_partAnew 74 = .ok (.aload_n 0, 1) := by decide +kernel
theorem dX4_partAnew_75 : decode cX4_partAnew 75 = .ok (.getfield 89, 3) := by decide +kernel
theorem dX4_partAnew_78 : decode cX4_partAnew 78 = .ok (.ishl, 1) := by decide +kernel
theorem dX4_partAnew_79 : decode cX4_partAnew 79 = .ok (.iconst 1, 1) := by decide +kernel
theorem dX4_partAnew_80 : decode cX4_partAnew 80 = .ok (.isub, 1) := by decide +kernel
theorem dX4_partAnew_81 : decode cX4_partAnew 81 = .ok (.iconst 0, 1) := by decide +kernel
theorem dX4_partAnew_82 : decode cX4_partAnew 82 = .ok (.invokevirtual 115, 3) := by decide +kernel
theorem dX4_partAnew_85 : decode cX4_partAnew 85 = .ok (.iconst 0, 1) := by decide +kernel
theorem dX4_partAnew_86 : decode cX4_partAnew 86 = .ok (.istore_n 2, 1) := by decide +kernel
theorem dX4_partAnew_87 : decode cX4_partAnew 87 = .ok (.iload_n 2, 1) := by decide +kernel
theorem dX4_partAnew_88 : decode cX4_partAnew 88 = .ok (.aload_n 0, 1) := by decide +kernel
theorem dX4_partAnew_89 : decode cX4_partAnew 89 = .ok (.getfield 89, 3) := by decide +kernel
theorem dX4_partAnew_92 : decode cX4_partAnew 92 = .ok (.if_icmp .ge 25, 3) := by decide +kernel
theorem dX4_partAnew_95 : decode cX4_partAnew 95 = .ok (.aload_n 0, 1) := by decide +kernel
theorem dX4_partAnew_96 : decode cX4_partAnew 96 = .ok (.getfield 26, 3) := by decide +kernel
theorem dX4_partAnew_99 : decode cX4_partAnew 99 = .ok (.aload_n 0, 1) := by decide +kernel
theorem dX4_partAnew_100 : decode cX4_partAnew 100 = .ok (.getfield 29, 3) := by decide +kernel
theorem dX4_partAnew_103 : decode cX4_partAnew 103 = .ok (.iload_n 2, 1) := by decide +kernel
theorem dX4_partAnew_104 : decode cX4_partAnew 104 = .ok (.iaload, 1) := by decide +kernel
theorem dX4_partAnew_105 : decode cX4_partAnew 105 = .ok (.aload_n 0, 1) := by decide +kernel
theorem dX4_partAnew_106 : decode cX4_partAnew 106 = .ok (.iload_n 2, 1) := by decide +kernel
theorem dX4_partAnew_107 : decode cX4_partAnew 107 = .ok (.invokevirtual 119, 3) := by decide +kernel
theorem dX4_partAnew_110 : decode cX4_partAnew 110 = .ok (.iastore, 1) := by decide +kernel
theorem dX4_partAnew_111 : decode cX4_partAnew 111 = .ok (.iinc 2 1, 3) := by decide +kernel
theorem dX4_partAnew_114 : decode cX4_partAnew 114 = .ok (.goto (-27), 3) := by decide +kernel
theorem dX4_partAnew_117 : decode cX4_partAnew 117 = .ok (.aload_n 0, 1) := by decide +kernel
theorem dX4_partAnew_118 : decode cX4_partAnew 118 = .ok (.getfield 23, 3) := by decide +kernel
theorem dX4_partAnew_121 : decode cX4_partAnew 121 = .ok (.iload_n 1, 1) := by decide +kernel
theorem dX4_partAnew_122 : decode cX4_partAnew 122 = .ok (.aload_n 0, 1) := by decide +kernel
theorem dX4_partAnew_123 : decode cX4_partAnew 123 = .ok (.getfield 112, 3) := by decide +kernel
theorem dX4_partAnew_126 : decode cX4_partAnew 126 = .ok (.iastore, 1) := by decide +kernel
theorem dX4_partAnew_127 : decode cX4_partAnew 127 = .ok (.aload_n 0, 1) := by decide +kernel
theorem dX4_partAnew_128 : decode cX4_partAnew 128 = .ok (.getfield 19, 3) := by decide +kernel
theorem dX4_partAnew_131 : decode cX4_partAnew 131 = .ok (.iload_n 1, 1) := by decide +kernel
theorem dX4_partAnew_132 : decode cX4_partAnew 132 = .ok (.iconst 1, 1) := by decide +kernel
theorem dX4_partAnew_133 : decode cX4_partAnew 133 = .ok (.iastore, 1) := by decide +kernel
theorem dX4_partAnew_134 : decode cX4_partAnew 134 = .ok (.return_, 1) := by decide +kernel
theorem dX4_bestDivisionOf_0 : decode cX4_bestDivisionOf 0 = .ok (.iconst 0, 1) := by decide +kernel
theorem dX4_bestDivisionOf_1 : decode cX4_bestDivisionOf 1 = .ok (.istore_n 2, 1) := by decide +kernel
theorem dX4_bestDivisionOf_2 : decode cX4_bestDivisionOf 2 = .ok (.iload_n 2, 1) := by decide +kernel
theorem dX4_bestDivisionOf_3 : decode cX4_bestDivisionOf 3 = .ok (.aload_n 0, 1) := by decide +kernel
theorem dX4_bestDivisionOf_4 : decode cX4_bestDivisionOf 4 = .ok (.getfield 100, 3) := by decide +kernel
theorem dX4_bestDivisionOf_7 : decode cX4_bestDivisionOf 7 = .ok (.if_icmp .ge 24, 3) := by decide +kernel
theorem dX4_bestDivisionOf_10 : decode cX4_bestDivisionOf 10 = .ok (.aload_n 0, 1) := by decide +kernel
theorem dX4_bestDivisionOf_11 : decode cX4_bestDivisionOf 11 = .ok (.getfield 47, 3) := by decide +kernel
theorem dX4_bestDivisionOf_14 : decode cX4_bestDivisionOf 14 = .ok (.iload_n 2, 1) := by decide +kernel
theorem dX4_bestDivisionOf_15 : decode cX4_bestDivisionOf 15 = .ok (.iaload, 1) := by decide +kernel
theorem dX4_bestDivisionOf_16 : decode cX4_bestDivisionOf 16 = .ok (.iload_n 1, 1) := by decide +kernel
theorem dX4_bestDivisionOf_17 : decode cX4_bestDivisionOf 17 = .ok (.ishr, 1) := by decide +kernel
theorem dX4_bestDivisionOf_18 : decode cX4_bestDivisionOf 18 = .ok (.iconst 1, 1) := by decide +kernel
theorem dX4_bestDivisionOf_19 : decode cX4_bestDivisionOf 19 = .ok (.iand, 1) := by decide +kernel
theorem dX4_bestDivisionOf_20 : decode cX4_bestDivisionOf 20 = .ok (.ifCond .eq 5, 3) := by decide +kernel
theorem dX4_bestDivisionOf_23 : decode cX4_bestDivisionOf 23 = .ok (.iload_n 2, 1) := by decide +kernel
theorem dX4_bestDivisionOf_24 : decode cX4_bestDivisionOf 24 = .ok (.ireturn, 1) := by decide +kernel
theorem dX4_bestDivisionOf_25 : decode cX4_bestDivisionOf 25 = .ok (.iinc 2 1, 3) := by decide +kernel
theorem dX4_bestDivisionOf_28 : decode cX4_bestDivisionOf 28 = .ok (.goto (-26), 3) := by decide +kernel
theorem dX4_bestDivisionOf_31 : decode cX4_bestDivisionOf 31 = .ok (.iconst 0, 1) := by decide +kernel
theorem dX4_bestDivisionOf_32 : decode cX4_bestDivisionOf 32 = .ok (.ireturn, 1) := by decide +kernel
theorem dX4_listSets_0 : decode cX4_listSets 0 = .ok (.iload_n 1, 1) := by decide +kernel
theorem dX4_listSets_1 : decode cX4_listSets 1 = .ok (.aload_n 0, 1) := by decide +kernel
theorem dX4_listSets_2 : decode cX4_listSets 2 = .ok (.getfield 95, 3) := by decide +kernel
theorem dX4_listSets_5 : decode cX4_listSets 5 = .ok (.if_icmp .lt 42, 3) := by decide +kernel
theorem dX4_listSets_8 : decode cX4_listSets 8 = .ok (.aload_n 0, 1) := by decide +kernel
theorem dX4_listSets_9 : decode cX4_listSets 9 = .ok (.getfield 102, 3) := by decide +kernel
theorem dX4_listSets_12 : decode cX4_listSets 12 = .ok (.sipush 924, 3) := by decide +kernel
theorem dX4_listSets_15 : decode cX4_listSets 15 = .ok (.if_icmp .ge 31, 3) := by decide +kernel
theorem dX4_listSets_18 : decode cX4_listSets 18 = .ok (.aload_n 0, 1) := by decide +kernel
theorem dX4_listSets_19 : decode cX4_listSets 19 = .ok (.getfield 35, 3) := by decide +kernel
theorem dX4_listSets_22 : decode cX4_listSets 22 = .ok (.aload_n 0, 1) := by decide +kernel
theorem dX4_listSets_23 : decode cX4_listSets 23 = .ok (.getfield 102, 3) := by decide +kernel
theorem dX4_listSets_26 : decode cX4_listSets 26 = .ok (.iload_n 3, 1) := by decide +kernel
theorem dX4_listSets_27 : decode cX4_listSets 27 = .ok (.iastore, 1) := by decide +kernel
theorem dX4_listSets_28 : decode cX4_listSets 28 = .ok (.aload_n 0, 1) := by decide +kernel
theorem dX4_listSets_29 : decode cX4_listSets 29 = .ok (.dup, 1) := by decide +kernel
theorem dX4_listSets_30 : decode cX4_listSets 30 = .ok (.getfield 102, 3) := by decide +kernel
theorem dX4_listSets_33 : decode cX4_listSets 33 = .ok (.iconst 1, 1) := by decide +kernel
theorem dX4_listSets_34 : decode cX4_listSets 34 = .ok (.iadd, 1) := by decide +kernel
theorem dX4_listSets_35 : decode cX4_listSets 35 = .ok (.putfield 102, 3) := by decide +kernel
theorem dX4_listSets_38 : decode cX4_listSets 38 = .ok (.aload_n 0, 1) := by decide +kernel
theorem dX4_listSets_39 : decode cX4_listSets 39 = .ok (.getfield 38, 3) := by decide +kernel
theorem dX4_listSets_42 : decode cX4_listSets 42 = .ok (.iload_n 3, 1) := by decide +kernel
theorem dX4_listSets_43 : decode cX4_listSets 43 = .ok (.iload 4, 2) := by decide +kernel
theorem dX4_listSets_45 : decode cX4_listSets 45 = .ok (.iastore, 1) := by decide +kernel
theorem dX4_listSets_46 : decode cX4_listSets 46 = .ok (.return_, 1) := by decide +kernel
theorem dX4_listSets_47 : decode cX4_listSets 47 = .ok (.iload_n 2, 1) := by decide +kernel
theorem dX4_listSets_48 : decode cX4_listSets 48 = .ok (.istore 5, 2) := by decide +kernel
theorem dX4_listSets_50 : decode cX4_listSets 50 = .ok (.iload 5, 2) := by decide +kernel
theorem dX4_listSets_52 : decode cX4_listSets 52 = .ok (.aload_n 0, 1) := by decide +kernel
theorem dX4_listSets_53 : decode cX4_listSets 53 = .ok (.getfield 89, 3) := by decide +kernel
theorem dX4_listSets_56 : decode cX4_listSets 56 = .ok (.aload_n 0, 1) := by decide +kernel
theorem dX4_listSets_57 : decode cX4_listSets 57 = .ok (.getfield 95, 3) := by decide +kernel
theorem dX4_listSets_60 : decode cX4_listSets 60 = .ok (.isub, 1) := by decide +kernel
theorem dX4_listSets_61 : decode cX4_listSets 61 = .ok (.iload_n 1, 1) := by decide +kernel
theorem dX4_listSets_62 : decode cX4_listSets 62 = .ok (.iadd, 1) := by decide +kernel
theorem dX4_listSets_63 : decode cX4_listSets 63 = .ok (.if_icmp .gt 64, 3) := by decide +kernel
theorem dX4_listSets_66 : decode cX4_listSets 66 = .ok (.aload_n 0, 1) := by decide +kernel
theorem dX4_listSets_67 : decode cX4_listSets 67 = .ok (.getfield 32, 3) := by decide +kernel
theorem dX4_listSets_70 : decode cX4_listSets 70 = .ok (.iload_n 1, 1) := by decide +kernel
theorem dX4_listSets_71 : decode cX4_listSets 71 = .ok (.aload_n 0, 1) := by decide +kernel
theorem dX4_listSets_72 : decode cX4_listSets 72 = .ok (.getfield 29, 3) := by decide +kernel
theorem dX4_listSets_75 : decode cX4_listSets 75 = .ok (.iload 5, 2) := by decide +kernel
theorem dX4_listSets_77 : decode cX4_listSets 77 = .ok (.iaload, 1) := by decide +kernel
theorem dX4_listSets_78 : decode cX4_listSets 78 = .ok (.iastore, 1) := by decide +kernel
theorem dX4_listSets_79 : decode cX4_listSets 79 = .ok (.aload_n 0, 1) := by decide +kernel
theorem dX4_listSets_80 : decode cX4_listSets 80 = .ok (.iload_n 1, 1) := by decide +kernel
theorem dX4_listSets_81 : decode cX4_listSets 81 = .ok (.iconst 1, 1) := by decide +kernel
theorem dX4_listSets_82 : decode cX4_listSets 82 = .ok (.iadd, 1) := by decide +kernel
theorem dX4_listSets_83 : decode cX4_listSets 83 = .ok (.iload 5, 2) := by decide +kernel
theorem dX4_listSets_85 : decode cX4_listSets 85 = .ok (.iconst 1, 1) := by decide +kernel
theorem dX4_listSets_86 : decode cX4_listSets 86 = .ok (.iadd, 1) := by decide +kernel
theorem dX4_listSets_87 : decode cX4_listSets 87 = .ok (.iload_n 3, 1) := by decide +kernel
theorem dX4_listSets_88 : decode cX4_listSets 88 = .ok (.iconst 1, 1) := by decide +kernel
theorem dX4_listSets_89 : decode cX4_listSets 89 = .ok (.iload 5, 2) := by decide +kernel
theorem dX4_listSets_91 : decode cX4_listSets 91 = .ok (.ishl, 1) := by decide +kernel
theorem dX4_listSets_92 : decode cX4_listSets 92 = .ok (.ior, 1) := by decide +kernel
theorem dX4_listSets_93 : decode cX4_listSets 93 = .ok (.iload 4, 2) := by decide +kernel
theorem dX4_listSets_95 : decode cX4_listSets 95 = .ok (.aload_n 0, 1) := by decide +kernel
theorem dX4_listSets_96 : decode cX4_listSets 96 = .ok (.iload_n 1, 1) := by decide +kernel
theorem dX4_listSets_97 : decode cX4_listSets 97 = .ok (.invokevirtual 123, 3) := by decide +kernel
theorem dX4_listSets_100 : decode cX4_listSets 100 = .ok (.iadd, 1) := by decide +kernel
theorem dX4_listSets_101 : decode cX4_listSets 101 = .ok (.invokevirtual 105, 3) := by decide +kernel
theorem dX4_listSets_104 : decode cX4_listSets 104 = .ok (.iload_n 1, 1) := by decide +kernel
theorem dX4_listSets_105 : decode cX4_listSets 105 = .ok (.ifCond .ne 16, 3) := by decide +kernel
theorem dX4_listSets_108 : decode cX4_listSets 108 = .ok (.aload_n 0, 1) := by decide +kernel
theorem dX4_listSets_109 : decode cX4_listSets 109 = .ok (.getfield 41, 3) := by decide +kernel
theorem dX4_listSets_112 : decode cX4_listSets 112 = .ok (.iload 5, 2) := by decide +kernel
theorem dX4_listSets_114 : decode cX4_listSets 114 = .ok (.iconst 1, 1) := by decide +kernel
theorem dX4_listSets_115 : decode cX4_listSets 115 = .ok (.iadd, 1) := by decide +kernel
theorem dX4_listSets_116 : decode cX4_listSets 116 = .ok (.aload_n 0, 1) := by decide +kernel
theorem dX4_listSets_117 : decode cX4_listSets 117 = .ok (.getfield 102, 3) := by decide +kernel
theorem dX4_listSets_120 : decode cX4_listSets 120 = .ok (.iastore, 1) := by decide +kernel
theorem dX4_listSets_121 : decode cX4_listSets 121 = .ok (.iinc 5 1, 3) := by decide +kernel
theorem dX4_listSets_124 : decode cX4_listSets 124 = .ok (.goto (-74), 3) := by decide +kernel
theorem dX4_listSets_127 : decode cX4_listSets 127 = .ok (.return_, 1) := by decide +kernel
theorem dX4_milesTo_0 : decode cX4_milesTo 0 = .ok (.iconst 0, 1) := by decide +kernel
theorem dX4_milesTo_1 : decode cX4_milesTo 1 = .ok (.istore_n 2, 1) := by decide +kernel
theorem dX4_milesTo_2 : decode cX4_milesTo 2 = .ok (.iconst 0, 1) := by decide +kernel
theorem dX4_milesTo_3 : decode cX4_milesTo 3 = .ok (.istore_n 3, 1) := by decide +kernel
theorem dX4_milesTo_4 : decode cX4_milesTo 4 = .ok (.iload_n 3, 1) := by decide +kernel
theorem dX4_milesTo_5 : decode cX4_milesTo 5 = .ok (.iload_n 1, 1) := by decide +kernel
theorem dX4_milesTo_6 : decode cX4_milesTo 6 = .ok (.if_icmp .ge 31, 3) := by decide +kernel
theorem dX4_milesTo_9 : decode cX4_milesTo 9 = .ok (.iload_n 2, 1) := by decide +kernel
theorem dX4_milesTo_10 : decode cX4_milesTo 10 = .ok (.aload_n 0, 1) := by decide +kernel
theorem dX4_milesTo_11 : decode cX4_milesTo 11 = .ok (.getfield 15, 3) := by decide +kernel
theorem dX4_milesTo_14 : decode cX4_milesTo 14 = .ok (.aload_n 0, 1) := by decide +kernel
theorem dX4_milesTo_15 : decode cX4_milesTo 15 = .ok (.getfield 32, 3) := by decide +kernel
theorem dX4_milesTo_18 : decode cX4_milesTo 18 = .ok (.iload_n 3, 1) := by decide +kernel
theorem dX4_milesTo_19 : decode cX4_milesTo 19 = .ok (.iaload, 1) := by decide +kernel
theorem dX4_milesTo_20 : decode cX4_milesTo 20 = .ok (.aload_n 0, 1) := by decide +kernel
theorem dX4_milesTo_21 : decode cX4_milesTo 21 = .ok (.getfield 32, 3) := by decide +kernel
theorem dX4_milesTo_24 : decode cX4_milesTo 24 = .ok (.iload_n 1, 1) := by decide +kernel
theorem dX4_milesTo_25 : decode cX4_milesTo 25 = .ok (.iaload, 1) := by decide +kernel
theorem dX4_milesTo_26 : decode cX4_milesTo 26 = .ok (.invokevirtual 126, 3) := by decide +kernel
theorem dX4_milesTo_29 : decode cX4_milesTo 29 = .ok (.iadd, 1) := by decide +kernel
theorem dX4_milesTo_30 : decode cX4_milesTo 30 = .ok (.istore_n 2, 1) := by decide +kernel
theorem dX4_milesTo_31 : decode cX4_milesTo 31 = .ok (.iinc 3 1, 3) := by decide +kernel
theorem dX4_milesTo_34 : decode cX4_milesTo 34 = .ok (.goto (-30), 3) := by decide +kernel
theorem dX4_milesTo_37 : decode cX4_milesTo 37 = .ok (.iload_n 2, 1) := by decide +kernel
theorem dX4_milesTo_38 : decode cX4_milesTo 38 = .ok (.ireturn, 1) := by decide +kernel
theorem dX4_choose_0 : decode cX4_choose 0 = .ok (.iload_n 1, 1) := by decide +kernel
theorem dX4_choose_1 : decode cX4_choose 1 = .ok (.aload_n 0, 1) := by decide +kernel
theorem dX4_choose_2 : decode cX4_choose 2 = .ok (.getfield 100, 3) := by decide +kernel
theorem dX4_choose_5 : decode cX4_choose 5 = .ok (.iconst 1, 1) := by decide +kernel
theorem dX4_choose_6 : decode cX4_choose 6 = .ok (.isub, 1) := by decide +kernel
theorem dX4_choose_7 : decode cX4_choose 7 = .ok (.if_icmp .lt 55, 3) := by decide +kernel
theorem dX4_choose_10 : decode cX4_choose 10 = .ok (.iload_n 3, 1) := by decide +kernel
theorem dX4_choose_11 : decode cX4_choose 11 = .ok (.aload_n 0, 1) := by decide +kernel
theorem dX4_choose_12 : decode cX4_choose 12 = .ok (.getfield 38, 3) := by decide +kernel
theorem dX4_choose_15 : decode cX4_choose 15 = .ok (.iload_n 2, 1) := by decide +kernel
theorem dX4_choose_16 : decode cX4_choose 16 = .ok (.iaload, 1) := by decide +kernel
theorem dX4_choose_17 : decode cX4_choose 17 = .ok (.iadd, 1) := by decide +kernel
theorem dX4_choose_18 : decode cX4_choose 18 = .ok (.aload_n 0, 1) := by decide +kernel
theorem dX4_choose_19 : decode cX4_choose 19 = .ok (.getfield 112, 3) := by decide +kernel
theorem dX4_choose_22 : decode cX4_choose 22 = .ok (.if_icmp .ge 39, 3) := by decide +kernel
theorem dX4_choose_25 : decode cX4_choose 25 = .ok (.aload_n 0, 1) := by decide +kernel
theorem dX4_choose_26 : decode cX4_choose 26 = .ok (.getfield 44, 3) := by decide +kernel
theorem dX4_choose_29 : decode cX4_choose 29 = .ok (.iload_n 1, 1) := by decide +kernel
theorem dX4_choose_30 : decode cX4_choose 30 = .ok (.iload_n 2, 1) := by decide +kernel
theorem dX4_choose_31 : decode cX4_choose 31 = .ok (.iastore, 1) := by decide +kernel
theorem dX4_choose_32 : decode cX4_choose 32 = .ok (.aload_n 0, 1) := by decide +kernel
theorem dX4_choose_33 : decode cX4_choose 33 = .ok (.getfield 44, 3) := by decide +kernel
theorem dX4_choose_36 : decode cX4_choose 36 = .ok (.iconst 0, 1) := by decide +kernel
theorem dX4_choose_37 : decode cX4_choose 37 = .ok (.aload_n 0, 1) := by decide +kernel
theorem dX4_choose_38 : decode cX4_choose 38 = .ok (.getfield 47, 3) := by decide +kernel
theorem dX4_choose_41 : decode cX4_choose 41 = .ok (.iconst 0, 1) := by decide +kernel
theorem dX4_choose_42 : decode cX4_choose 42 = .ok (.aload_n 0, 1) := by decide +kernel
theorem dX4_choose_43 : decode cX4_choose 43 = .ok (.getfield 100, 3) := by decide +kernel
theorem dX4_choose_46 : decode cX4_choose 46 = .ok (.invokestatic 132, 3) := by decide +kernel
theorem dX4_choose_49 : decode cX4_choose 49 = .ok (.aload_n 0, 1) := by decide +kernel
theorem dX4_choose_50 : decode cX4_choose 50 = .ok (.iload_n 3, 1) := by decide +kernel
theorem dX4_choose_51 : decode cX4_choose 51 = .ok (.aload_n 0, 1) := by decide +kernel
theorem dX4_choose_52 : decode cX4_choose 52 = .ok (.getfield 38, 3) := by decide +kernel
theorem dX4_choose_55 : decode cX4_choose 55 = .ok (.iload_n 2, 1) := by decide +kernel
theorem dX4_choose_56 : decode cX4_choose 56 = .ok (.iaload, 1) := by decide +kernel
theorem dX4_choose_57 : decode cX4_choose 57 = .ok (.iadd, 1) := by decide +kernel
theorem dX4_choose_58 : decode cX4_choose 58 = .ok (.putfield 112, 3) := by decide +kernel
theorem dX4_choose_61 : decode cX4_choose 61 = .ok (.return_, 1) := by decide +kernel
theorem dX4_choose_62 : decode cX4_choose 62 = .ok (.iload_n 2, 1) := by decide +kernel
theorem dX4_choose_63 : decode cX4_choose 63 = .ok (.iload_n 2, 1) := by decide +kernel
theorem dX4_choose_64 : decode cX4_choose 64 = .ok (.ineg, 1) := by decide +kernel
theorem dX4_choose_65 : decode cX4_choose 65 = .ok (.iand, 1) := by decide +kernel
theorem dX4_choose_66 : decode cX4_choose 66 = .ok (.iconst 1, 1) := by decide +kernel
theorem dX4_choose_67 : decode cX4_choose 67 = .ok (.isub, 1) := by decide +kernel
theorem dX4_choose_68 : decode cX4_choose 68 = .ok (.invokestatic 138, 3) := by decide +kernel
theorem dX4_choose_71 : decode cX4_choose 71 = .ok (.istore 4, 2) := by decide +kernel
theorem dX4_choose_73 : decode cX4_choose 73 = .ok (.iload 4, 2) := by decide +kernel
theorem dX4_choose_75 : decode cX4_choose 75 = .ok (.aload_n 0, 1) := by decide +kernel
theorem dX4_choose_76 : decode cX4_choose 76 = .ok (.getfield 89, 3) := by decide +kernel
theorem dX4_choose_79 : decode cX4_choose 79 = .ok (.if_icmp .lt 4, 3) := by decide +kernel
theorem dX4_choose_82 : decode cX4_choose 82 = .ok (.return_, 1) := by decide +kernel
theorem dX4_choose_83 : decode cX4_choose 83 = .ok (.aload_n 0, 1) := by decide +kernel
theorem dX4_choose_84 : decode cX4_choose 84 = .ok (.getfield 41, 3) := by decide +kernel
theorem dX4_choose_87 : decode cX4_choose 87 = .ok (.iload 4, 2) := by decide +kernel
theorem dX4_choose_89 : decode cX4_choose 89 = .ok (.iaload, 1) := by decide +kernel
theorem dX4_choose_90 : decode cX4_choose 90 = .ok (.istore 5, 2) := by decide +kernel
theorem dX4_choose_92 : decode cX4_choose 92 = .ok (.iload 5, 2) := by decide +kernel
theorem dX4_choose_94 : decode cX4_choose 94 = .ok (.aload_n 0, 1) := by decide +kernel
theorem dX4_choose_95 : decode cX4_choose 95 = .ok (.getfield 41, 3) := by decide +kernel
theorem dX4_choose_98 : decode cX4_choose 98 = .ok (.iload 4, 2) := by decide +kernel
theorem dX4_choose_100 : decode cX4_choose 100 = .ok (.iconst 1, 1) := by decide +kernel
theorem dX4_choose_101 : decode cX4_choose 101 = .ok (.iadd, 1) := by decide +kernel
theorem dX4_choose_102 : decode cX4_choose 102 = .ok (.iaload, 1) := by decide +kernel
theorem dX4_choose_103 : decode cX4_choose 103 = .ok (.if_icmp .ge 82, 3) := by decide +kernel
theorem dX4_choose_106 : decode cX4_choose 106 = .ok (.iload 5, 2) := by decide +kernel
theorem dX4_choose_108 : decode cX4_choose 108 = .ok (.aload_n 0, 1) := by decide +kernel
theorem dX4_choose_109 : decode cX4_choose 109 = .ok (.getfield 102, 3) := by decide +kernel
theorem dX4_choose_112 : decode cX4_choose 112 = .ok (.if_icmp .ge 73, 3) := by decide +kernel
theorem dX4_choose_115 : decode cX4_choose 115 = .ok (.aload_n 0, 1) := by decide +kernel
theorem dX4_choose_116 : decode cX4_choose 116 = .ok (.getfield 35, 3) := by decide +kernel
theorem dX4_choose_119 : decode cX4_choose 119 = .ok (.iload 5, 2) := by decide +kernel
theorem dX4_choose_121 : decode cX4_choose 121 = .ok (.iaload, 1) := by decide +kernel
theorem dX4_choose_122 : decode cX4_choose 122 = .ok (.istore 6, 2) := by decide +kernel
theorem dX4_choose_124 : decode cX4_choose 124 = .ok (.iload 6, 2) := by decide +kernel
theorem dX4_choose_126 : decode cX4_choose 126 = .ok (.iload_n 2, 1) := by decide +kernel
theorem dX4_choose_127 : decode cX4_choose 127 = .ok (.iconst (-1), 1) := by decide +kernel
theorem dX4_choose_128 : decode cX4_choose 128 = .ok (.ixor, 1) := by decide +kernel
theorem dX4_choose_129 : decode cX4_choose 129 = .ok (.iand, 1) := by decide +kernel
theorem dX4_choose_130 : decode cX4_choose 130 = .ok (.ifCond .ne 49, 3) := by decide +kernel
theorem dX4_choose_133 : decode cX4_choose 133 = .ok (.iload_n 3, 1) := by decide +kernel
theorem dX4_choose_134 : decode cX4_choose 134 = .ok (.aload_n 0, 1) := by decide +kernel
theorem dX4_choose_135 : decode cX4_choose 135 = .ok (.getfield 38, 3) := by decide +kernel
theorem dX4_choose_138 : decode cX4_choose 138 = .ok (.iload 6, 2) := by decide +kernel
theorem dX4_choose_140 : decode cX4_choose 140 = .ok (.iaload, 1) := by decide +kernel
theorem dX4_choose_141 : decode cX4_choose 141 = .ok (.iadd, 1) := by decide +kernel
theorem dX4_choose_142 : decode cX4_choose 142 = .ok (.aload_n 0, 1) := by decide +kernel
theorem dX4_choose_143 : decode cX4_choose 143 = .ok (.getfield 112, 3) := by decide +kernel
theorem dX4_choose_146 : decode cX4_choose 146 = .ok (.if_icmp .ge 33, 3) := by decide +kernel
theorem dX4_choose_149 : decode cX4_choose 149 = .ok (.aload_n 0, 1) := by decide +kernel
theorem dX4_choose_150 : decode cX4_choose 150 = .ok (.getfield 44, 3) := by decide +kernel
theorem dX4_choose_153 : decode cX4_choose 153 = .ok (.iload_n 1, 1) := by decide +kernel
theorem dX4_choose_154 : decode cX4_choose 154 = .ok (.iload 6, 2) := by decide +kernel
theorem dX4_choose_156 : decode cX4_choose 156 = .ok (.iastore, 1) := by decide +kernel
theorem dX4_choose_157 : decode cX4_choose 157 = .ok (.aload_n 0, 1) := by decide +kernel
theorem dX4_choose_158 : decode cX4_choose 158 = .ok (.iload_n 1, 1) := by decide +kernel
theorem dX4_choose_159 : decode cX4_choose 159 = .ok (.iconst 1, 1) := by decide +kernel
theorem dX4_choose_160 : decode cX4_choose 160 = .ok (.iadd, 1) := by decide +kernel
theorem dX4_choose_161 : decode cX4_choose 161 = .ok (.iload_n 2, 1) := by decide +kernel
theorem dX4_choose_162 : decode cX4_choose 162 = .ok (.iload 6, 2) := by decide +kernel
theorem dX4_choose_164 : decode cX4_choose 164 = .ok (.iconst (-1), 1) := by decide +kernel
theorem dX4_choose_165 : decode cX4_choose 165 = .ok (.ixor, 1) := by decide +kernel
theorem dX4_choose_166 : decode cX4_choose 166 = .ok (.iand, 1) := by decide +kernel
theorem dX4_choose_167 : decode cX4_choose 167 = .ok (.iload_n 3, 1) := by decide +kernel
theorem dX4_choose_168 : decode cX4_choose 168 = .ok (.aload_n 0, 1) := by decide +kernel
theorem dX4_choose_169 : decode cX4_choose 169 = .ok (.getfield 38, 3) := by decide +kernel
theorem dX4_choose_172 : decode cX4_choose 172 = .ok (.iload 6, 2) := by decide +kernel
theorem dX4_choose_174 : decode cX4_choose 174 = .ok (.iaload, 1) := by decide +kernel
theorem dX4_choose_175 : decode cX4_choose 175 = .ok (.iadd, 1) := by decide +kernel
theorem dX4_choose_176 : decode cX4_choose 176 = .ok (.invokevirtual 115, 3) := by decide +kernel
theorem dX4_choose_179 : decode cX4_choose 179 = .ok (.iinc 5 1, 3) := by decide +kernel
theorem dX4_choose_182 : decode cX4_choose 182 = .ok (.goto (-90), 3) := by decide +kernel
theorem dX4_choose_185 : decode cX4_choose 185 = .ok (.return_, 1) := by decide +kernel
theorem dX5_init_0 : decode cX5_init 0 = .ok (.aload_n 0, 1) := by decide +kernel
theorem dX5_init_1 : decode cX5_init 1 = .ok (.invokespecial 3, 3) := by decide +kernel
theorem dX5_init_4 : decode cX5_init 4 = .ok (.aload_n 0, 1) := by decide +kernel
theorem dX5_init_5 : decode cX5_init 5 = .ok (.iconst 4, 1) := by decide +kernel
theorem dX5_init_6 : decode cX5_init 6 = .ok (.newarray .int, 2) := by decide +kernel
theorem dX5_init_8 : decode cX5_init 8 = .ok (.putfield 9, 3) := by decide +kernel
theorem dX5_init_11 : decode cX5_init 11 = .ok (.aload_n 0, 1) := by decide +kernel
theorem dX5_init_12 : decode cX5_init 12 = .ok (.iconst 4, 1) := by decide +kernel
theorem dX5_init_13 : decode cX5_init 13 = .ok (.newarray .int, 2) := by decide +kernel
theorem dX5_init_15 : decode cX5_init 15 = .ok (.putfield 15, 3) := by decide +kernel
theorem dX5_init_18 : decode cX5_init 18 = .ok (.aload_n 0, 1) := by decide +kernel
theorem dX5_init_19 : decode cX5_init 19 = .ok (.iconst 4, 1) := by decide +kernel
theorem dX5_init_20 : decode cX5_init 20 = .ok (.newarray .int, 2) := by decide +kernel
theorem dX5_init_22 : decode cX5_init 22 = .ok (.putfield 18, 3) := by decide +kernel
theorem dX5_init_25 : decode cX5_init 25 = .ok (.aload_n 0, 1) := by decide +kernel
theorem dX5_init_26 : decode cX5_init 26 = .ok (.iconst 4, 1) := by decide +kernel
theorem dX5_init_27 : decode cX5_init 27 = .ok (.newarray .int, 2) := by decide +kernel
theorem dX5_init_29 : decode cX5_init 29 = .ok (.putfield 21, 3) := by decide +kernel
theorem dX5_init_32 : decode cX5_init 32 = .ok (.aload_n 0, 1) := by decide +kernel
theorem dX5_init_33 : decode cX5_init 33 = .ok (.bipush 30, 2) := by decide +kernel
theorem dX5_init_35 : decode cX5_init 35 = .ok (.newarray .long, 2) := by decide +kernel
theorem dX5_init_37 : decode cX5_init 37 = .ok (.putfield 24, 3) := by decide +kernel
theorem dX5_init_40 : decode cX5_init 40 = .ok (.aload_n 0, 1) := by decide +kernel
theorem dX5_init_41 : decode cX5_init 41 = .ok (.bipush 30, 2) := by decide +kernel
theorem dX5_init_43 : decode cX5_init 43 = .ok (.newarray .int, 2) := by decide +kernel
theorem dX5_init_45 : decode cX5_init 45 = .ok (.putfield 28, 3) := by decide +kernel
theorem dX5_init_48 : decode cX5_init 48 = .ok (.aload_n 0, 1) := by decide +kernel
theorem dX5_init_49 : decode cX5_init 49 = .ok (.bipush 30, 2) := by decide +kernel
theorem dX5_init_51 : decode cX5_init 51 = .ok (.newarray .int, 2) := by decide +kernel
theorem dX5_init_53 : decode cX5_init 53 = .ok (.putfield 31, 3) := by decide +kernel
theorem dX5_init_56 : decode cX5_init 56 = .ok (.aload_n 0, 1) := by decide +kernel
theorem dX5_init_57 : decode cX5_init 57 = .ok (.bipush 30, 2) := by decide +kernel
theorem dX5_init_59 : decode cX5_init 59 = .ok (.newarray .int, 2) := by decide +kernel
theorem dX5_init_61 : decode cX5_init 61 = .ok (.putfield 34, 3) := by decide +kernel
theorem dX5_init_64 : decode cX5_init 64 = .ok (.aload_n 0, 1) := by decide +kernel
theorem dX5_init_65 : decode cX5_init 65 = .ok (.bipush 30, 2) := by decide +kernel
theorem dX5_init_67 : decode cX5_init 67 = .ok (.newarray .int, 2) := by decide +kernel
theorem dX5_init_69 : decode cX5_init 69 = .ok (.putfield 37, 3) := by decide +kernel
theorem dX5_init_72 : decode cX5_init 72 = .ok (.aload_n 0, 1) := by decide +kernel
theorem dX5_init_73 : decode cX5_init 73 = .ok (.bipush 30, 2) := by decide +kernel
theorem dX5_init_75 : decode cX5_init 75 = .ok (.newarray .int, 2) := by decide +kernel
theorem dX5_init_77 : decode cX5_init 77 = .ok (.putfield 40, 3) := by decide +kernel
theorem dX5_init_80 : decode cX5_init 80 = .ok (.return_, 1) := by decide +kernel
theorem dX5_copy_0 : decode cX5_copy 0 = .ok (.aload_n 0, 1) := by decide +kernel
theorem dX5_copy_1 : decode cX5_copy 1 = .ok (.aload_n 1, 1) := by decide +kernel
theorem dX5_copy_2 : decode cX5_copy 2 = .ok (.getfield 43, 3) := by decide +kernel
theorem dX5_copy_5 : decode cX5_copy 5 = .ok (.putfield 43, 3) := by decide +kernel
theorem dX5_copy_8 : decode cX5_copy 8 = .ok (.aload_n 1, 1) := by decide +kernel
theorem dX5_copy_9 : decode cX5_copy 9 = .ok (.getfield 9, 3) := by decide +kernel
theorem dX5_copy_12 : decode cX5_copy 12 = .ok (.iconst 0, 1) := by decide +kernel
theorem dX5_copy_13 : decode cX5_copy 13 = .ok (.aload_n 0, 1) := by decide +kernel
theorem dX5_copy_14 : decode cX5_copy 14 = .ok (.getfield 9, 3) := by decide +kernel
theorem dX5_copy_17 : decode cX5_copy 17 = .ok (.iconst 0, 1) := by decide +kernel
theorem dX5_copy_18 : decode cX5_copy 18 = .ok (.iconst 4, 1) := by decide +kernel
theorem dX5_copy_19 : decode cX5_copy 19 = .ok (.invokestatic 47, 3) := by decide +kernel
theorem dX5_copy_22 : decode cX5_copy 22 = .ok (.aload_n 1, 1) := by decide +kernel
theorem dX5_copy_23 : decode cX5_copy 23 = .ok (.getfield 15, 3) := by decide +kernel
theorem dX5_copy_26 : decode cX5_copy 26 = .ok (.iconst 0, 1) := by decide +kernel
theorem dX5_copy_27 : decode cX5_copy 27 = .ok (.aload_n 0, 1) := by decide +kernel
theorem dX5_copy_28 : decode cX5_copy 28 = .ok (.getfield 15, 3) := by decide +kernel
theorem dX5_copy_31 : decode cX5_copy 31 = .ok (.iconst 0, 1) := by decide +kernel
theorem dX5_copy_32 : decode cX5_copy 32 = .ok (.iconst 4, 1) := by decide +kernel
theorem dX5_copy_33 : decode cX5_copy 33 = .ok (.invokestatic 47, 3) := by decide +kernel
theorem dX5_copy_36 : decode cX5_copy 36 = .ok (.aload_n 1, 1) := by decide +kernel
theorem dX5_copy_37 : decode cX5_copy 37 = .ok (.getfield 18, 3) := by decide +kernel
theorem dX5_copy_40 : decode cX5_copy 40 = .ok (.iconst 0, 1) := by decide +kernel
theorem dX5_copy_41 : decode cX5_copy 41 = .ok (.aload_n 0, 1) := by decide +kernel
theorem dX5_copy_42 : decode cX5_copy 42 = .ok (.getfield 18, 3) := by decide +kernel
theorem dX5_copy_45 : decode cX5_copy 45 = .ok (.iconst 0, 1) := by decide +kernel
theorem dX5_copy_46 : decode cX5_copy 46 = .ok (.iconst 4, 1) := by decide +kernel
theorem dX5_copy_47 : decode cX5_copy 47 = .ok (.invokestatic 47, 3) := by decide +kernel
theorem dX5_copy_50 : decode cX5_copy 50 = .ok (.aload_n 1, 1) := by decide +kernel
theorem dX5_copy_51 : decode cX5_copy 51 = .ok (.getfield 21, 3) := by decide +kernel
theorem dX5_copy_54 : decode cX5_copy 54 = .ok (.iconst 0, 1) := by decide +kernel
theorem dX5_copy_55 : decode cX5_copy 55 = .ok (.aload_n 0, 1) := by decide +kernel
theorem dX5_copy_56 : decode cX5_copy 56 = .ok (.getfield 21, 3) := by decide +kernel
theorem dX5_copy_59 : decode cX5_copy 59 = .ok (.iconst 0, 1) := by decide +kernel
theorem dX5_copy_60 : decode cX5_copy 60 = .ok (.iconst 4, 1) := by decide +kernel
theorem dX5_copy_61 : decode cX5_copy 61 = .ok (.invokestatic 47, 3) := by decide +kernel
theorem dX5_copy_64 : decode cX5_copy 64 = .ok (.aload_n 0, 1) := by decide +kernel
theorem dX5_copy_65 : decode cX5_copy 65 = .ok (.aload_n 1, 1) := by decide +kernel
theorem dX5_copy_66 : decode cX5_copy 66 = .ok (.getfield 53, 3) := by decide +kernel
theorem dX5_copy_69 : decode cX5_copy 69 = .ok (.putfield 53, 3) := by decide +kernel
theorem dX5_copy_72 : decode cX5_copy 72 = .ok (.aload_n 1, 1) := by decide +kernel
theorem dX5_copy_73 : decode cX5_copy 73 = .ok (.getfield 24, 3) := by decide +kernel
theorem dX5_copy_76 : decode cX5_copy 76 = .ok (.iconst 0, 1) := by decide +kernel
theorem dX5_copy_77 : decode cX5_copy 77 = .ok (.aload_n 0, 1) := by decide +kernel
theorem dX5_copy_78 : decode cX5_copy 78 = .ok (.getfield 24, 3) := by decide +kernel
theorem dX5_copy_81 : decode cX5_copy 81 = .ok (.iconst 0, 1) := by decide +kernel
theorem dX5_copy_82 : decode cX5_copy 82 = .ok (.bipush 30, 2) := by decide +kernel
theorem dX5_copy_84 : decode cX5_copy 84 = .ok (.invokestatic 47, 3) := by decide +kernel
theorem dX5_copy_87 : decode cX5_copy 87 = .ok (.aload_n 1, 1) := by decide +kernel
theorem dX5_copy_88 : decode cX5_copy 88 = .ok (.getfield 28, 3) := by decide +kernel
theorem dX5_copy_91 : decode cX5_copy 91 = .ok (.iconst 0, 1) := by decide +kernel
theorem dX5_copy_92 : decode cX5_copy 92 = .ok (.aload_n 0, 1) := by decide +kernel
theorem dX5_copy_93 : decode cX5_copy 93 = .ok (.getfield 28, 3) := by decide +kernel
theorem dX5_copy_96 : decode cX5_copy 96 = .ok (.iconst 0, 1) := by decide +kernel
theorem dX5_copy_97 : decode cX5_copy 97 = .ok (.bipush 30, 2) := by decide +kernel
theorem dX5_copy_99 : decode cX5_copy 99 = .ok (.invokestatic 47, 3) := by decide +kernel
theorem dX5_copy_102 : decode cX5_copy 102 = .ok (.aload_n 1, 1) := by decide +kernel
theorem dX5_copy_103 : decode cX5_copy 103 = .ok (.getfield 31, 3) := by decide +kernel
theorem dX5_copy_106 : decode cX5_copy 106 = .ok (.iconst 0, 1) := by decide +kernel
theorem dX5_copy_107 : decode cX5_copy 107 = .ok (.aload_n 0, 1) := by decide +kernel
theorem dX5_copy_108 : decode cX5_copy 108 = .ok (.getfield 31, 3) := by decide +kernel
theorem dX5_copy_111 : decode cX5_copy 111 = .ok (.iconst 0, 1) := by decide +kernel
theorem dX5_copy_112 : decode cX5_copy 112 = .ok (.bipush 30, 2) := by decide +kernel
theorem dX5_copy_114 : decode cX5_copy 114 = .ok (.invokestatic 47, 3) := by decide +kernel
theorem dX5_copy_117 : decode cX5_copy 117 = .ok (.aload_n 1, 1) := by decide +kernel
theorem dX5_copy_118 : decode cX5_copy 118 = .ok (.getfield 34, 3) := by decide +kernel
theorem dX5_copy_121 : decode cX5_copy 121 = .ok (.iconst 0, 1) := by decide +kernel
theorem dX5_copy_122 : decode cX5_copy 122 = .ok (.aload_n 0, 1) := by decide +kernel
theorem dX5_copy_123 : decode cX5_copy 123 = .ok (.getfield 34, 3) := by decide +kernel
theorem dX5_copy_126 : decode cX5_copy 126 = .ok (.iconst 0, 1) := by decide +kernel
theorem dX5_copy_127 : decode cX5_copy 127 = .ok (.bipush 30, 2) := by decide +kernel
theorem dX5_copy_129 : decode cX5_copy 129 = .ok (.invokestatic 47, 3) := by decide +kernel
theorem dX5_copy_132 : decode cX5_copy 132 = .ok (.aload_n 1, 1) := by decide +kernel
theorem dX5_copy_133 : decode cX5_copy 133 = .ok (.getfield 37, 3) := by decide +kernel
theorem dX5_copy_136 : decode cX5_copy 136 = .ok (.iconst 0, 1) := by decide +kernel
theorem dX5_copy_137 : decode cX5_copy 137 = .ok (.aload_n 0, 1) := by decide +kernel
theorem dX5_copy_138 : decode cX5_copy 138 = .ok (.getfield 37, 3) := by decide +kernel
theorem dX5_copy_141 : decode cX5_copy 141 = .ok (.iconst 0, 1) := by decide +kernel
theorem dX5_copy_142 : decode cX5_copy 142 = .ok (.bipush 30, 2) := by decide +kernel
theorem dX5_copy_144 : decode cX5_copy 144 = .ok (.invokestatic 47, 3) := by decide +kernel
theorem dX5_copy_147 : decode cX5_copy 147 = .ok (.aload_n 1, 1) := by decide +kernel
theorem dX5_copy_148 : decode cX5_copy 148 = .ok (.getfield 40, 3) := by decide +kernel
theorem dX5_copy_151 : decode cX5_copy 151 = .ok (.iconst 0, 1) := by decide +kernel
theorem dX5_copy_152 : decode cX5_copy 152 = .ok (.aload_n 0, 1) := by decide +kernel
theorem dX5_copy_153 : decode cX5_copy 153 = .ok (.getfield 40, 3) := by decide +kernel
theorem dX5_copy_156 : decode cX5_copy 156 = .ok (.iconst 0, 1) := by decide +kernel
theorem dX5_copy_157 : decode cX5_copy 157 = .ok (.bipush 30, 2) := by decide +kernel
theorem dX5_copy_159 : decode cX5_copy 159 = .ok (.invokestatic 47, 3) := by decide +kernel
theorem dX5_copy_162 : decode cX5_copy 162 = .ok (.return_, 1) := by decide +kernel
theorem dX5_hasLevel_0 : decode cX5_hasLevel 0 = .ok (.iload_n 1, 1) := by decide +kernel
theorem dX5_hasLevel_1 : decode cX5_hasLevel 1 = .ok (.ifCond .lt 15, 3) := by decide +kernel
theorem dX5_hasLevel_4 : decode cX5_hasLevel 4 = .ok (.iload_n 1, 1) := by decide +kernel
theorem dX5_hasLevel_5 : decode cX5_hasLevel 5 = .ok (.aload_n 0, 1) := by decide +kernel
theorem dX5_hasLevel_6 : decode cX5_hasLevel 6 = .ok (.getfield 43, 3) := by decide +kernel
theorem dX5_hasLevel_9 : decode cX5_hasLevel 9 = .ok (.if_icmp .ge 7, 3) := by decide +kernel
theorem dX5_hasLevel_12 : decode cX5_hasLevel 12 = .ok (.iconst 1, 1) := by decide +kernel
theorem dX5_hasLevel_13 : decode cX5_hasLevel 13 = .ok (.goto 4, 3) := by decide +kernel
theorem dX5_hasLevel_16 : decode cX5_hasLevel 16 = .ok (.iconst 0, 1) := by decide +kernel
theorem dX5_hasLevel_17 : decode cX5_hasLevel 17 = .ok (.ireturn, 1) := by decide +kernel
theorem dX5_hasDivision_0 : decode cX5_hasDivision 0 = .ok (.aload_n 0, 1) := by decide +kernel
theorem dX5_hasDivision_1 : decode cX5_hasDivision 1 = .ok (.iload_n 1, 1) := by decide +kernel
theorem dX5_hasDivision_2 : decode cX5_hasDivision 2 = .ok (.invokevirtual 56, 3) := by decide +kernel
theorem dX5_hasDivision_5 : decode cX5_hasDivision 5 = .ok (.ifCond .eq 21, 3) := by decide +kernel
theorem dX5_hasDivision_8 : decode cX5_hasDivision 8 = .ok (.iload_n 2, 1) := by decide +kernel
theorem dX5_hasDivision_9 : decode cX5_hasDivision 9 = .ok (.ifCond .lt 17, 3) := by decide +kernel
theorem dX5_hasDivision_12 : decode cX5_hasDivision 12 = .ok (.iload_n 2, 1) := by decide +kernel
theorem dX5_hasDivision_13 : decode cX5_hasDivision 13 = .ok (.aload_n 0, 1) := by decide +kernel
theorem dX5_hasDivision_14 : decode cX5_hasDivision 14 = .ok (.getfield 9, 3) := by decide +kernel
theorem dX5_hasDivision_17 : decode cX5_hasDivision 17 = .ok (.iload_n 1, 1) := by decide +kernel
theorem dX5_hasDivision_18 : decode cX5_hasDivision 18 = .ok (.iaload, 1) := by decide +kernel
theorem dX5_hasDivision_19 : decode cX5_hasDivision 19 = .ok (.if_icmp .ge 7, 3) := by decide +kernel
theorem dX5_hasDivision_22 : decode cX5_hasDivision 22 = .ok (.iconst 1, 1) := by decide +kernel
theorem dX5_hasDivision_23 : decode cX5_hasDivision 23 = .ok (.goto 4, 3) := by decide +kernel
theorem dX5_hasDivision_26 : decode cX5_hasDivision 26 = .ok (.iconst 0, 1) := by decide +kernel
theorem dX5_hasDivision_27 : decode cX5_hasDivision 27 = .ok (.ireturn, 1) := by decide +kernel
theorem dX5_isClub_0 : decode cX5_isClub 0 = .ok (.iload_n 1, 1) := by decide +kernel
theorem dX5_isClub_1 : decode cX5_isClub 1 = .ok (.ifCond .lt 15, 3) := by decide +kernel
theorem dX5_isClub_4 : decode cX5_isClub 4 = .ok (.iload_n 1, 1) := by decide +kernel
theorem dX5_isClub_5 : decode cX5_isClub 5 = .ok (.aload_n 0, 1) := by decide +kernel
theorem dX5_isClub_6 : decode cX5_isClub 6 = .ok (.getfield 53, 3) := by decide +kernel
theorem dX5_isClub_9 : decode cX5_isClub 9 = .ok (.if_icmp .ge 7, 3) := by decide +kernel
theorem dX5_isClub_12 : decode cX5_isClub 12 = .ok (.iconst 1, 1) := by decide +kernel
theorem dX5_isClub_13 : decode cX5_isClub 13 = .ok (.goto 4, 3) := by decide +kernel
theorem dX5_isClub_16 : decode cX5_isClub 16 = .ok (.iconst 0, 1) := by decide +kernel
theorem dX5_isClub_17 : decode cX5_isClub 17 = .ok (.ireturn, 1) := by decide +kernel
theorem dX5_plays_0 : decode cX5_plays 0 = .ok (.aload_n 0, 1) := by decide +kernel
theorem dX5_plays_1 : decode cX5_plays 1 = .ok (.iload_n 1, 1) := by decide +kernel
theorem dX5_plays_2 : decode cX5_plays 2 = .ok (.invokevirtual 60, 3) := by decide +kernel
theorem dX5_plays_5 : decode cX5_plays 5 = .ok (.ifCond .eq 20, 3) := by decide +kernel
theorem dX5_plays_8 : decode cX5_plays 8 = .ok (.aload_n 0, 1) := by decide +kernel
theorem dX5_plays_9 : decode cX5_plays 9 = .ok (.aload_n 0, 1) := by decide +kernel
theorem dX5_plays_10 : decode cX5_plays 10 = .ok (.getfield 37, 3) := by decide +kernel
theorem dX5_plays_13 : decode cX5_plays 13 = .ok (.iload_n 1, 1) := by decide +kernel
theorem dX5_plays_14 : decode cX5_plays 14 = .ok (.iaload, 1) := by decide +kernel
theorem dX5_plays_15 : decode cX5_plays 15 = .ok (.invokevirtual 56, 3) := by decide +kernel
theorem dX5_plays_18 : decode cX5_plays 18 = .ok (.ifCond .eq 7, 3) := by decide +kernel
theorem dX5_plays_21 : decode cX5_plays 21 = .ok (.iconst 1, 1) := by decide +kernel
theorem dX5_plays_22 : decode cX5_plays 22 = .ok (.goto 4, 3) := by decide +kernel
theorem dX5_plays_25 : decode cX5_plays 25 = .ok (.iconst 0, 1) := by decide +kernel
theorem dX5_plays_26 : decode cX5_plays 26 = .ok (.ireturn, 1) := by decide +kernel
theorem dX5_standsIn_0 : decode cX5_standsIn 0 = .ok (.aload_n 0, 1) := by decide +kernel
theorem dX5_standsIn_1 : decode cX5_standsIn 1 = .ok (.getfield 37, 3) := by decide +kernel
theorem dX5_standsIn_4 : decode cX5_standsIn 4 = .ok (.iload_n 1, 1) := by decide +kernel
theorem dX5_standsIn_5 : decode cX5_standsIn 5 = .ok (.iaload, 1) := by decide +kernel
theorem dX5_standsIn_6 : decode cX5_standsIn 6 = .ok (.iload_n 2, 1) := by decide +kernel
theorem dX5_standsIn_7 : decode cX5_standsIn 7 = .ok (.if_icmp .ne 17, 3) := by decide +kernel
theorem dX5_standsIn_10 : decode cX5_standsIn 10 = .ok (.aload_n 0, 1) := by decide +kernel
theorem dX5_standsIn_11 : decode cX5_standsIn 11 = .ok (.getfield 40, 3) := by decide +kernel
theorem dX5_standsIn_14 : decode cX5_standsIn 14 = .ok (.iload_n 1, 1) := by decide +kernel
theorem dX5_standsIn_15 : decode cX5_standsIn 15 = .ok (.iaload, 1) := by decide +kernel
theorem dX5_standsIn_16 : decode cX5_standsIn 16 = .ok (.iload_n 3, 1) := by decide +kernel
theorem dX5_standsIn_17 : decode cX5_standsIn 17 = .ok (.if_icmp .ne 7, 3) := by decide +kernel
theorem dX5_standsIn_20 : decode cX5_standsIn 20 = .ok (.iconst 1, 1) := by decide +kernel
theorem dX5_standsIn_21 : decode cX5_standsIn 21 = .ok (.goto 4, 3) := by decide +kernel
theorem dX5_standsIn_24 : decode cX5_standsIn 24 = .ok (.iconst 0, 1) := by decide +kernel
theorem dX5_standsIn_25 : decode cX5_standsIn 25 = .ok (.ireturn, 1) := by decide +kernel
theorem dX5_together_0 : decode cX5_together 0 = .ok (.aload_n 0, 1) := by decide +kernel
theorem dX5_together_1 : decode cX5_together 1 = .ok (.iload_n 1, 1) := by decide +kernel
theorem dX5_together_2 : decode cX5_together 2 = .ok (.invokevirtual 63, 3) := by decide +kernel
theorem dX5_together_5 : decode cX5_together 5 = .ok (.ifCond .eq 27, 3) := by decide +kernel
theorem dX5_together_8 : decode cX5_together 8 = .ok (.aload_n 0, 1) := by decide +kernel
theorem dX5_together_9 : decode cX5_together 9 = .ok (.iload_n 2, 1) := by decide +kernel
theorem dX5_together_10 : decode cX5_together 10 = .ok (.aload_n 0, 1) := by decide +kernel
theorem dX5_together_11 : decode cX5_together 11 = .ok (.getfield 37, 3) := by decide +kernel
theorem dX5_together_14 : decode cX5_together 14 = .ok (.iload_n 1, 1) := by decide +kernel
theorem dX5_together_15 : decode cX5_together 15 = .ok (.iaload, 1) := by decide +kernel
theorem dX5_together_16 : decode cX5_together 16 = .ok (.aload_n 0, 1) := by decide +kernel
theorem dX5_together_17 : decode cX5_together 17 = .ok (.getfield 40, 3) := by decide +kernel
theorem dX5_together_20 : decode cX5_together 20 = .ok (.iload_n 1, 1) := by decide +kernel
theorem dX5_together_21 : decode cX5_together 21 = .ok (.iaload, 1) := by decide +kernel
theorem dX5_together_22 : decode cX5_together 22 = .ok (.invokevirtual 66, 3) := by decide +kernel
theorem dX5_together_25 : decode cX5_together 25 = .ok (.ifCond .eq 7, 3) := by decide +kernel
theorem dX5_together_28 : decode cX5_together 28 = .ok (.iconst 1, 1) := by decide +kernel
theorem dX5_together_29 : decode cX5_together 29 = .ok (.goto 4, 3) := by decide +kernel
theorem dX5_together_32 : decode cX5_together 32 = .ok (.iconst 0, 1) := by decide +kernel
theorem dX5_together_33 : decode cX5_together 33 = .ok (.ireturn, 1) := by decide +kernel
theorem dX5_find_0 : decode cX5_find 0 = .ok (.iconst 0, 1) := by decide +kernel
theorem dX5_find_1 : decode cX5_find 1 = .ok (.istore_n 3, 1) := by decide +kernel
theorem dX5_find_2 : decode cX5_find 2 = .ok (.iload_n 3, 1) := by decide +kernel
theorem dX5_find_3 : decode cX5_find 3 = .ok (.aload_n 0, 1) := by decide +kernel
theorem dX5_find_4 : decode cX5_find 4 = .ok (.getfield 53, 3) := by decide +kernel
theorem dX5_find_7 : decode cX5_find 7 = .ok (.if_icmp .ge 22, 3) := by decide +kernel
theorem dX5_find_10 : decode cX5_find 10 = .ok (.aload_n 0, 1) := by decide +kernel
theorem dX5_find_11 : decode cX5_find 11 = .ok (.getfield 24, 3) := by decide +kernel
theorem dX5_find_14 : decode cX5_find 14 = .ok (.iload_n 3, 1) := by decide +kernel
theorem dX5_find_15 : decode cX5_find 15 = .ok (.laload, 1) := by decide +kernel
theorem dX5_find_16 : decode cX5_find 16 = .ok (.lload_n 1, 1) := by decide +kernel
theorem dX5_find_17 : decode cX5_find 17 = .ok (.lcmp, 1) := by decide +kernel
theorem dX5_find_18 : decode cX5_find 18 = .ok (.ifCond .ne 5, 3) := by decide +kernel
theorem dX5_find_21 : decode cX5_find 21 = .ok (.iload_n 3, 1) := by decide +kernel
theorem dX5_find_22 : decode cX5_find 22 = .ok (.ireturn, 1) := by decide +kernel
theorem dX5_find_23 : decode cX5_find 23 = .ok (.iinc 3 1, 3) := by decide +kernel
theorem dX5_find_26 : decode cX5_find 26 = .ok (.goto (-24), 3) := by decide +kernel
theorem dX5_find_29 : decode cX5_find 29 = .ok (.iconst (-1), 1) := by decide +kernel
theorem dX5_find_30 : decode cX5_find 30 = .ok (.ireturn, 1) := by decide +kernel
theorem dX5_howMany_0 : decode cX5_howMany 0 = .ok (.iconst 0, 1) := by decide +kernel
theorem dX5_howMany_1 : decode cX5_howMany 1 = .ok (.istore_n 2, 1) := by decide +kernel
theorem dX5_howMany_2 : decode cX5_howMany 2 = .ok (.iconst 0, 1) := by decide +kernel
theorem dX5_howMany_3 : decode cX5_howMany 3 = .ok (.istore_n 3, 1) := by decide +kernel
theorem dX5_howMany_4 : decode cX5_howMany 4 = .ok (.iload_n 3, 1) := by decide +kernel
theorem dX5_howMany_5 : decode cX5_howMany 5 = .ok (.aload_n 0, 1) := by decide +kernel
theorem dX5_howMany_6 : decode cX5_howMany 6 = .ok (.getfield 53, 3) := by decide +kernel
theorem dX5_howMany_9 : decode cX5_howMany 9 = .ok (.if_icmp .ge 22, 3) := by decide +kernel
theorem dX5_howMany_12 : decode cX5_howMany 12 = .ok (.aload_n 0, 1) := by decide +kernel
theorem dX5_howMany_13 : decode cX5_howMany 13 = .ok (.getfield 37, 3) := by decide +kernel
theorem dX5_howMany_16 : decode cX5_howMany 16 = .ok (.iload_n 3, 1) := by decide +kernel
theorem dX5_howMany_17 : decode cX5_howMany 17 = .ok (.iaload, 1) := by decide +kernel
theorem dX5_howMany_18 : decode cX5_howMany 18 = .ok (.iload_n 1, 1) := by decide +kernel
theorem dX5_howMany_19 : decode cX5_howMany 19 = .ok (.if_icmp .ne 6, 3) := by decide +kernel
theorem dX5_howMany_22 : decode cX5_howMany 22 = .ok (.iinc 2 1, 3) := by decide +kernel
theorem dX5_howMany_25 : decode cX5_howMany 25 = .ok (.iinc 3 1, 3) := by decide +kernel
theorem dX5_howMany_28 : decode cX5_howMany 28 = .ok (.goto (-24), 3) := by decide +kernel
theorem dX5_howMany_31 : decode cX5_howMany 31 = .ok (.iload_n 2, 1) := by decide +kernel
theorem dX5_howMany_32 : decode cX5_howMany 32 = .ok (.ireturn, 1) := by decide +kernel
theorem dX5_howManyIn_0 : decode cX5_howManyIn 0 = .ok (.iconst 0, 1) := by decide +kernel
theorem dX5_howManyIn_1 : decode cX5_howManyIn 1 = .ok (.istore_n 3, 1) := by decide +kernel
theorem dX5_howManyIn_2 : decode cX5_howManyIn 2 = .ok (.iconst 0, 1) := by decide +kernel
theorem dX5_howManyIn_3 : decode cX5_howManyIn 3 = .ok (.istore 4, 2) := by decide +kernel
theorem dX5_howManyIn_5 : decode cX5_howManyIn 5 = .ok (.iload 4, 2) := by decide +kernel
theorem dX5_howManyIn_7 : decode cX5_howManyIn 7 = .ok (.aload_n 0, 1) := by decide +kernel
theorem dX5_howManyIn_8 : decode cX5_howManyIn 8 = .ok (.getfield 53, 3) := by decide +kernel
theorem dX5_howManyIn_11 : decode cX5_howManyIn 11 = .ok (.if_icmp .ge 23, 3) := by decide +kernel
theorem dX5_howManyIn_14 : decode cX5_howManyIn 14 = .ok (.aload_n 0, 1) := by decide +kernel
theorem dX5_howManyIn_15 : decode cX5_howManyIn 15 = .ok (.iload 4, 2) := by decide +kernel
theorem dX5_howManyIn_17 : decode cX5_howManyIn 17 = .ok (.iload_n 1, 1) := by decide +kernel
theorem dX5_howManyIn_18 : decode cX5_howManyIn 18 = .ok (.iload_n 2, 1) := by decide +kernel
theorem dX5_howManyIn_19 : decode cX5_howManyIn 19 = .ok (.invokevirtual 66, 3) := by decide +kernel
theorem dX5_howManyIn_22 : decode cX5_howManyIn 22 = .ok (.ifCond .eq 6, 3) := by decide +kernel
theorem dX5_howManyIn_25 : decode cX5_howManyIn 25 = .ok (.iinc 3 1, 3) := by decide +kernel
theorem dX5_howManyIn_28 : decode cX5_howManyIn 28 = .ok (.iinc 4 1, 3) := by decide +kernel
theorem dX5_howManyIn_31 : decode cX5_howManyIn 31 = .ok (.goto (-26), 3) := by decide +kernel
theorem dX5_howManyIn_34 : decode cX5_howManyIn 34 = .ok (.iload_n 3, 1) := by decide +kernel
theorem dX5_howManyIn_35 : decode cX5_howManyIn 35 = .ok (.ireturn, 1) := by decide +kernel
theorem dX5_gather_0 : decode cX5_gather 0 = .ok (.iconst 0, 1) := by decide +kernel
theorem dX5_gather_1 : decode cX5_gather 1 = .ok (.istore_n 3, 1) := by decide +kernel
theorem dX5_gather_2 : decode cX5_gather 2 = .ok (.iconst 0, 1) := by decide +kernel
theorem dX5_gather_3 : decode cX5_gather 3 = .ok (.istore 4, 2) := by decide +kernel
theorem dX5_gather_5 : decode cX5_gather 5 = .ok (.iload 4, 2) := by decide +kernel
theorem dX5_gather_7 : decode cX5_gather 7 = .ok (.aload_n 0, 1) := by decide +kernel
theorem dX5_gather_8 : decode cX5_gather 8 = .ok (.getfield 53, 3) := by decide +kernel
theorem dX5_gather_11 : decode cX5_gather 11 = .ok (.if_icmp .ge 34, 3) := by decide +kernel
theorem dX5_gather_14 : decode cX5_gather 14 = .ok (.aload_n 0, 1) := by decide +kernel
theorem dX5_gather_15 : decode cX5_gather 15 = .ok (.getfield 37, 3) := by decide +kernel
theorem dX5_gather_18 : decode cX5_gather 18 = .ok (.iload 4, 2) := by decide +kernel
theorem dX5_gather_20 : decode cX5_gather 20 = .ok (.iaload, 1) := by decide +kernel
theorem dX5_gather_21 : decode cX5_gather 21 = .ok (.iload_n 1, 1) := by decide +kernel
theorem dX5_gather_22 : decode cX5_gather 22 = .ok (.if_icmp .ne 17, 3) := by decide +kernel
theorem dX5_gather_25 : decode cX5_gather 25 = .ok (.iload_n 3, 1) := by decide +kernel
theorem dX5_gather_26 : decode cX5_gather 26 = .ok (.aload_n 2, 1) := by decide +kernel
theorem dX5_gather_27 : decode cX5_gather 27 = .ok (.arraylength, 1) := by decide +kernel
theorem dX5_gather_28 : decode cX5_gather 28 = .ok (.if_icmp .ge 11, 3) := by decide +kernel
theorem dX5_gather_31 : decode cX5_gather 31 = .ok (.aload_n 2, 1) := by decide +kernel
theorem dX5_gather_32 : decode cX5_gather 32 = .ok (.iload_n 3, 1) := by decide +kernel
theorem dX5_gather_33 : decode cX5_gather 33 = .ok (.iload 4, 2) := by decide +kernel
theorem dX5_gather_35 : decode cX5_gather 35 = .ok (.iastore, 1) := by decide +kernel
theorem dX5_gather_36 : decode cX5_gather 36 = .ok (.iinc 3 1, 3) := by decide +kernel
theorem dX5_gather_39 : decode cX5_gather 39 = .ok (.iinc 4 1, 3) := by decide +kernel
theorem dX5_gather_42 : decode cX5_gather 42 = .ok (.goto (-37), 3) := by decide +kernel
theorem dX5_gather_45 : decode cX5_gather 45 = .ok (.iload_n 3, 1) := by decide +kernel
theorem dX5_gather_46 : decode cX5_gather 46 = .ok (.ireturn, 1) := by decide +kernel
theorem dX6_init_0 : decode cX6_init 0 = .ok (.aload_n 0, 1) := by decide +kernel
theorem dX6_init_1 : decode cX6_init 1 = .ok (.invokespecial 3, 3) := by decide +kernel
theorem dX6_init_4 : decode cX6_init 4 = .ok (.aload_n 0, 1) := by decide +kernel
theorem dX6_init_5 : decode cX6_init 5 = .ok (.aload_n 1, 1) := by decide +kernel
theorem dX6_init_6 : decode cX6_init 6 = .ok (.putfield 9, 3) := by decide +kernel
theorem dX6_init_9 : decode cX6_init 9 = .ok (.aload_n 0, 1) := by decide +kernel
theorem dX6_init_10 : decode cX6_init 10 = .ok (.new 15, 3) := by decide +kernel
theorem dX6_init_13 : decode cX6_init 13 = .ok (.dup, 1) := by decide +kernel
theorem dX6_init_14 : decode cX6_init 14 = .ok (.invokespecial 17, 3) := by decide +kernel
theorem dX6_init_17 : decode cX6_init 17 = .ok (.putfield 18, 3) := by decide +kernel
theorem dX6_init_20 : decode cX6_init 20 = .ok (.return_, 1) := by decide +kernel
theorem dX6_read_0 : decode cX6_read 0 = .ok (.aload_n 0, 1) := by decide +kernel
theorem dX6_read_1 : decode cX6_read 1 = .ok (.getfield 18, 3) := by decide +kernel
theorem dX6_read_4 : decode cX6_read 4 = .ok (.iconst 0, 1) := by decide +kernel
theorem dX6_read_5 : decode cX6_read 5 = .ok (.putfield 22, 3) := by decide +kernel
theorem dX6_read_8 : decode cX6_read 8 = .ok (.aload_n 0, 1) := by decide +kernel
theorem dX6_read_9 : decode cX6_read 9 = .ok (.getfield 18, 3) := by decide +kernel
theorem dX6_read_12 : decode cX6_read 12 = .ok (.iconst 0, 1) := by decide +kernel
theorem dX6_read_13 : decode cX6_read 13 = .ok (.putfield 26, 3) := by decide +kernel
theorem dX6_read_16 : decode cX6_read 16 = .ok (.aload_n 0, 1) := by decide +kernel
theorem dX6_read_17 : decode cX6_read 17 = .ok (.getfield 9, 3) := by decide +kernel
theorem dX6_read_20 : decode cX6_read 20 = .ok (.invokevirtual 29, 3) := by decide +kernel
theorem dX6_read_23 : decode cX6_read 23 = .ok (.iconst 0, 1) := by decide +kernel
theorem dX6_read_24 : decode cX6_read 24 = .ok (.istore_n 1, 1) := by decide +kernel
theorem dX6_read_25 : decode cX6_read 25 = .ok (.iload_n 1, 1) := by decide +kernel
theorem dX6_read_26 : decode cX6_read 26 = .ok (.sipush 700, 3) := by decide +kernel
theorem dX6_read_29 : decode cX6_read 29 = .ok (.if_icmp .gt 121, 3) := by decide +kernel
theorem dX6_read_32 : decode cX6_read 32 = .ok (.aload_n 0, 1) := by decide +kernel
theorem dX6_read_33 : decode cX6_read 33 = .ok (.getfield 9, 3) := by decide +kernel
theorem dX6_read_36 : decode cX6_read 36 = .ok (.invokevirtual 34, 3) := by decide +kernel
theorem dX6_read_39 : decode cX6_read 39 = .ok (.aload_n 0, 1) := by decide +kernel
theorem dX6_read_40 : decode cX6_read 40 = .ok (.getfield 9, 3) := by decide +kernel
theorem dX6_read_43 : decode cX6_read 43 = .ok (.getfield 37, 3) := by decide +kernel
theorem dX6_read_46 : decode cX6_read 46 = .ok (.ifCond .ne 27, 3) := by decide +kernel
theorem dX6_read_49 : decode cX6_read 49 = .ok (.aload_n 0, 1) := by decide +kernel
theorem dX6_read_50 : decode cX6_read 50 = .ok (.invokevirtual 40, 3) := by decide +kernel
theorem dX6_read_53 : decode cX6_read 53 = .ok (.ifCond .ne 14, 3) := by decide +kernel
theorem dX6_read_56 : decode cX6_read 56 = .ok (.aload_n 0, 1) := by decide +kernel
theorem dX6_read_57 : decode cX6_read 57 = .ok (.getfield 9, 3) := by decide +kernel
theorem dX6_read_60 : decode cX6_read 60 = .ok (.iconst 5, 1) := by decide +kernel
theorem dX6_read_61 : decode cX6_read 61 = .ok (.invokevirtual 44, 3) := by decide +kernel
theorem dX6_read_64 : decode cX6_read 64 = .ok (.ifCond .eq 7, 3) := by decide +kernel
theorem dX6_read_67 : decode cX6_read 67 = .ok (.iconst 1, 1) := by decide +kernel
theorem dX6_read_68 : decode cX6_read 68 = .ok (.goto 4, 3) := by decide +kernel
theorem dX6_read_71 : decode cX6_read 71 = .ok (.iconst 0, 1) := by decide +kernel
theorem dX6_read_72 : decode cX6_read 72 = .ok (.ireturn, 1) := by decide +kernel
theorem dX6_read_73 : decode cX6_read 73 = .ok (.aload_n 0, 1) := by decide +kernel
theorem dX6_read_74 : decode cX6_read 74 = .ok (.getfield 9, 3) := by decide +kernel
theorem dX6_read_77 : decode cX6_read 77 = .ok (.ldc2_w 48, 3) := by decide +kernel
theorem dX6_read_80 : decode cX6_read 80 = .ok (.invokevirtual 50, 3) := by decide +kernel
theorem dX6_read_83 : decode cX6_read 83 = .ok (.ifCond .eq 18, 3) := by decide +kernel
theorem dX6_read_86 : decode cX6_read 86 = .ok (.aload_n 0, 1) := by decide +kernel
theorem dX6_read_87 : decode cX6_read 87 = .ok (.aload_n 0, 1) := by decide +kernel
theorem dX6_read_88 : decode cX6_read 88 = .ok (.getfield 18, 3) := by decide +kernel
theorem dX6_read_91 : decode cX6_read 91 = .ok (.getfield 22, 3) := by decide +kernel
theorem dX6_read_94 : decode cX6_read 94 = .ok (.invokevirtual 54, 3) := by decide +kernel
theorem dX6_read_97 : decode cX6_read 97 = .ok (.istore_n 2, 1) := by decide +kernel
theorem dX6_read_98 : decode cX6_read 98 = .ok (.goto 40, 3) := by decide +kernel
theorem dX6_read_101 : decode cX6_read 101 = .ok (.aload_n 0, 1) := by decide +kernel
theorem dX6_read_102 : decode cX6_read 102 = .ok (.getfield 9, 3) := by decide +kernel
theorem dX6_read_105 : decode cX6_read 105 = .ok (.ldc2_w 57, 3) := by decide +kernel
theorem dX6_read_108 : decode cX6_read 108 = .ok (.invokevirtual 50, 3) := by decide +kernel
theorem dX6_read_111 : decode cX6_read 111 = .ok (.ifCond .eq 18, 3) := by decide +kernel
theorem dX6_read_114 : decode cX6_read 114 = .ok (.aload_n 0, 1) := by decide +kernel
theorem dX6_read_115 : decode cX6_read 115 = .ok (.aload_n 0, 1) := by decide +kernel
theorem dX6_read_116 : decode cX6_read 116 = .ok (.getfield 18, 3) := by decide +kernel
theorem dX6_read_119 : decode cX6_read 119 = .ok (.getfield 26, 3) := by decide +kernel
theorem dX6_read_122 : decode cX6_read 122 = .ok (.invokevirtual 59, 3) := by decide +kernel
theorem dX6_read_125 : decode cX6_read 125 = .ok (.istore_n 2, 1) := by decide +kernel
theorem dX6_read_126 : decode cX6_read 126 = .ok (.goto 12, 3) := by decide +kernel
theorem dX6_read_129 : decode cX6_read 129 = .ok (.aload_n 0, 1) := by decide +kernel
theorem dX6_read_130 : decode cX6_read 130 = .ok (.getfield 9, 3) := by decide +kernel
theorem dX6_read_133 : decode cX6_read 133 = .ok (.iconst 1, 1) := by decide +kernel
theorem dX6_read_134 : decode cX6_read 134 = .ok (.invokevirtual 44, 3) := by decide +kernel
theorem dX6_read_137 : decode cX6_read 137 = .ok (.istore_n 2, 1) := by decide +kernel
theorem dX6_read_138 : decode cX6_read 138 = .ok (.iload_n 2, 1) := by decide +kernel
theorem dX6_read_139 : decode cX6_read 139 = .ok (.ifCond .ne 5, 3) := by decide +kernel
theorem dX6_read_142 : decode cX6_read 142 = .ok (.iconst 0, 1) := by decide +kernel
theorem dX6_read_143 : decode cX6_read 143 = .ok (.ireturn, 1) := by decide +kernel
theorem dX6_read_144 : decode cX6_read 144 = .ok (.iinc 1 1, 3) := by decide +kernel
theorem dX6_read_147 : decode cX6_read 147 = .ok (.goto (-122), 3) := by decide +kernel
theorem dX6_read_150 : decode cX6_read 150 = .ok (.aload_n 0, 1) := by decide +kernel
theorem dX6_read_151 : decode cX6_read 151 = .ok (.getfield 9, 3) := by decide +kernel
theorem dX6_read_154 : decode cX6_read 154 = .ok (.iconst 1, 1) := by decide +kernel
theorem dX6_read_155 : decode cX6_read 155 = .ok (.invokevirtual 44, 3) := by decide +kernel
theorem dX6_read_158 : decode cX6_read 158 = .ok (.ireturn, 1) := by decide +kernel
theorem dX6_readLevel_0 : decode cX6_readLevel 0 = .ok (.iload_n 1, 1) := by decide +kernel
theorem dX6_readLevel_1 : decode cX6_readLevel 1 = .ok (.iconst 4, 1) := by decide +kernel
theorem dX6_readLevel_2 : decode cX6_readLevel 2 = .ok (.if_icmp .lt 12, 3) := by decide +kernel
theorem dX6_readLevel_5 : decode cX6_readLevel 5 = .ok (.aload_n 0, 1) := by decide +kernel
theorem dX6_readLevel_6 : decode cX6_readLevel 6 = .ok (.getfield 9, 3) := by decide +kernel
theorem dX6_readLevel_9 : decode cX6_readLevel 9 = .ok (.iconst 4, 1) := by decide +kernel
theorem dX6_readLevel_10 : decode cX6_readLevel 10 = .ok (.invokevirtual 44, 3) := by decide +kernel
theorem dX6_readLevel_13 : decode cX6_readLevel 13 = .ok (.ireturn, 1) := by decide +kernel
theorem dX6_readLevel_14 : decode cX6_readLevel 14 = .ok (.aload_n 0, 1) := by decide +kernel
theorem dX6_readLevel_15 : decode cX6_readLevel 15 = .ok (.getfield 9, 3) := by decide +kernel
theorem dX6_readLevel_18 : decode cX6_readLevel 18 = .ok (.iconst 1, 1) := by decide +kernel
theorem dX6_readLevel_19 : decode cX6_readLevel 19 = .ok (.iconst 3, 1) := by decide +kernel
theorem dX6_readLevel_20 : decode cX6_readLevel 20 = .ok (.invokevirtual 62, 3) := by decide +kernel
theorem dX6_readLevel_23 : decode cX6_readLevel 23 = .ok (.istore_n 2, 1) := by decide +kernel
theorem dX6_readLevel_24 : decode cX6_readLevel 24 = .ok (.iload_n 2, 1) := by decide +kernel
theorem dX6_readLevel_25 : decode cX6_readLevel 25 = .ok (.iconst 1, 1) := by decide +kernel
theorem dX6_readLevel_26 : decode cX6_readLevel 26 = .ok (.if_icmp .lt 16, 3) := by decide +kernel
theorem dX6_readLevel_29 : decode cX6_readLevel 29 = .ok (.aload_n 0, 1) := by decide +kernel
theorem dX6_readLevel_30 : decode cX6_readLevel 30 = .ok (.getfield 9, 3) := by decide +kernel
theorem dX6_readLevel_33 : decode cX6_readLevel 33 = .ok (.ldc2_w 66, 3) := by decide +kernel
theorem dX6_readLevel_36 : decode cX6_readLevel 36 = .ok (.invokevirtual 68, 3) := by decide +kernel
theorem dX6_readLevel_39 : decode cX6_readLevel 39 = .ok (.ifCond .ne 5, 3) := by decide +kernel
theorem dX6_readLevel_42 : decode cX6_readLevel 42 = .ok (.iconst 0, 1) := by decide +kernel
theorem dX6_readLevel_43 : decode cX6_readLevel 43 = .ok (.ireturn, 1) := by decide +kernel
theorem dX6_readLevel_44 : decode cX6_readLevel 44 = .ok (.aload_n 0, 1) := by decide +kernel
theorem dX6_readLevel_45 : decode cX6_readLevel 45 = .ok (.getfield 9, 3) := by decide +kernel
theorem dX6_readLevel_48 : decode cX6_readLevel 48 = .ok (.iconst 2, 1) := by decide +kernel
theorem dX6_readLevel_49 : decode cX6_readLevel 49 = .ok (.bipush 6, 2) := by decide +kernel
theorem dX6_readLevel_51 : decode cX6_readLevel 51 = .ok (.bipush 12, 2) := by decide +kernel
theorem dX6_readLevel_53 : decode cX6_readLevel 53 = .ok (.iload_n 2, 1) := by decide +kernel
theorem dX6_readLevel_54 : decode cX6_readLevel 54 = .ok (.idiv, 1) := by decide +kernel
theorem dX6_readLevel_55 : decode cX6_readLevel 55 = .ok (.invokestatic 71, 3) := by decide +kernel
theorem dX6_readLevel_58 : decode cX6_readLevel 58 = .ok (.invokevirtual 62, 3) := by decide +kernel
theorem dX6_readLevel_61 : decode cX6_readLevel 61 = .ok (.istore_n 3, 1) := by decide +kernel
theorem dX6_readLevel_62 : decode cX6_readLevel 62 = .ok (.iload_n 3, 1) := by decide +kernel
theorem dX6_readLevel_63 : decode cX6_readLevel 63 = .ok (.iconst (-1), 1) := by decide +kernel
theorem dX6_readLevel_64 : decode cX6_readLevel 64 = .ok (.if_icmp .eq 16, 3) := by decide +kernel
theorem dX6_readLevel_67 : decode cX6_readLevel 67 = .ok (.aload_n 0, 1) := by decide +kernel
theorem dX6_readLevel_68 : decode cX6_readLevel 68 = .ok (.getfield 9, 3) := by decide +kernel
theorem dX6_readLevel_71 : decode cX6_readLevel 71 = .ok (.ldc2_w 76, 3) := by decide +kernel
theorem dX6_readLevel_74 : decode cX6_readLevel 74 = .ok (.invokevirtual 68, 3) := by decide +kernel
theorem dX6_readLevel_77 : decode cX6_readLevel 77 = .ok (.ifCond .ne 5, 3) := by decide +kernel
theorem dX6_readLevel_80 : decode cX6_readLevel 80 = .ok (.iconst 0, 1) := by decide +kernel
theorem dX6_readLevel_81 : decode cX6_readLevel 81 = .ok (.ireturn, 1) := by decide +kernel
theorem dX6_readLevel_82 : decode cX6_readLevel 82 = .ok (.aload_n 0, 1) := by decide +kernel
theorem dX6_readLevel_83 : decode cX6_readLevel 83 = .ok (.getfield 9, 3) := by decide +kernel
theorem dX6_readLevel_86 : decode cX6_readLevel 86 = .ok (.iconst 0, 1) := by decide +kernel
theorem dX6_readLevel_87 : decode cX6_readLevel 87 = .ok (.bipush 6, 2) := by decide +kernel
theorem dX6_readLevel_89 : decode cX6_readLevel 89 = .ok (.invokevirtual 62, 3) := by decide +kernel
theorem dX6_readLevel_92 : decode cX6_readLevel 92 = .ok (.istore 4, 2) := by decide +kernel
theorem dX6_readLevel_94 : decode cX6_readLevel 94 = .ok (.iload 4, 2) := by decide +kernel
theorem dX6_readLevel_96 : decode cX6_readLevel 96 = .ok (.iconst (-1), 1) := by decide +kernel
theorem dX6_readLevel_97 : decode cX6_readLevel 97 = .ok (.if_icmp .eq 16, 3) := by decide +kernel
theorem dX6_readLevel_100 : decode cX6_readLevel 100 = .ok (.aload_n 0, 1) := by decide +kernel
theorem dX6_readLevel_101 : decode cX6_readLevel 101 = .ok (.getfield 9, 3) := by decide +kernel
theorem dX6_readLevel_104 : decode cX6_readLevel 104 = .ok (.ldc2_w 78, 3) := by decide +kernel
theorem dX6_readLevel_107 : decode cX6_readLevel 107 = .ok (.invokevirtual 68, 3) := by decide +kernel
theorem dX6_readLevel_110 : decode cX6_readLevel 110 = .ok (.ifCond .ne 5, 3) := by decide +kernel
theorem dX6_readLevel_113 : decode cX6_readLevel 113 = .ok (.iconst 0, 1) := by decide +kernel
theorem dX6_readLevel_114 : decode cX6_readLevel 114 = .ok (.ireturn, 1) := by decide +kernel
theorem dX6_readLevel_115 : decode cX6_readLevel 115 = .ok (.aload_n 0, 1) := by decide +kernel
theorem dX6_readLevel_116 : decode cX6_readLevel 116 = .ok (.getfield 9, 3) := by decide +kernel
theorem dX6_readLevel_119 : decode cX6_readLevel 119 = .ok (.iconst 0, 1) := by decide +kernel
theorem dX6_readLevel_120 : decode cX6_readLevel 120 = .ok (.bipush 9, 2) := by decide +kernel
theorem dX6_readLevel_122 : decode cX6_readLevel 122 = .ok (.invokevirtual 62, 3) := by decide +kernel
theorem dX6_readLevel_125 : decode cX6_readLevel 125 = .ok (.istore 5, 2) := by decide +kernel
theorem dX6_readLevel_127 : decode cX6_readLevel 127 = .ok (.iload 5, 2) := by decide +kernel
theorem dX6_readLevel_129 : decode cX6_readLevel 129 = .ok (.iconst (-1), 1) := by decide +kernel
theorem dX6_readLevel_130 : decode cX6_readLevel 130 = .ok (.if_icmp .eq 15, 3) := by decide +kernel
theorem dX6_readLevel_133 : decode cX6_readLevel 133 = .ok (.aload_n 0, 1) := by decide +kernel
theorem dX6_readLevel_134 : decode cX6_readLevel 134 = .ok (.getfield 9, 3) := by decide +kernel
theorem dX6_readLevel_137 : decode cX6_readLevel 137 = .ok (.bipush 59, 2) := by decide +kernel
theorem dX6_readLevel_139 : decode cX6_readLevel 139 = .ok (.invokevirtual 80, 3) := by decide +kernel
theorem dX6_readLevel_142 : decode cX6_readLevel 142 = .ok (.ifCond .ne 5, 3) := by decide +kernel
theorem dX6_readLevel_145 : decode cX6_readLevel 145 = .ok (.iconst 0, 1) := by decide +kernel
theorem dX6_readLevel_146 : decode cX6_readLevel 146 = .ok (.ireturn, 1) := by decide +kernel
theorem dX6_readLevel_147 : decode cX6_readLevel 147 = .ok (.aload_n 0, 1) := by decide +kernel
theorem dX6_readLevel_148 : decode cX6_readLevel 148 = .ok (.getfield 18, 3) := by decide +kernel
theorem dX6_readLevel_151 : decode cX6_readLevel 151 = .ok (.getfield 84, 3) := by decide +kernel
theorem dX6_readLevel_154 : decode cX6_readLevel 154 = .ok (.iload_n 1, 1) := by decide +kernel
theorem dX6_readLevel_155 : decode cX6_readLevel 155 = .ok (.iload_n 2, 1) := by decide +kernel
theorem dX6_readLevel_156 : decode cX6_readLevel 156 = .ok (.iastore, 1) := by decide +kernel
theorem dX6_readLevel_157 : decode cX6_readLevel 157 = .ok (.aload_n 0, 1) := by decide +kernel
theorem dX6_readLevel_158 : decode cX6_readLevel 158 = .ok (.getfield 18, 3) := by decide +kernel
theorem dX6_readLevel_161 : decode cX6_readLevel 161 = .ok (.getfield 88, 3) := by decide +kernel
theorem dX6_readLevel_164 : decode cX6_readLevel 164 = .ok (.iload_n 1, 1) := by decide +kernel
theorem dX6_readLevel_165 : decode cX6_readLevel 165 = .ok (.iload_n 3, 1) := by decide +kernel
theorem dX6_readLevel_166 : decode cX6_readLevel 166 = .ok (.iastore, 1) := by decide +kernel
theorem dX6_readLevel_167 : decode cX6_readLevel 167 = .ok (.aload_n 0, 1) := by decide +kernel
theorem dX6_readLevel_168 : decode cX6_readLevel 168 = .ok (.getfield 18, 3) := by decide +kernel
theorem dX6_readLevel_171 : decode cX6_readLevel 171 = .ok (.getfield 91, 3) := by decide +kernel
theorem dX6_readLevel_174 : decode cX6_readLevel 174 = .ok (.iload_n 1, 1) := by decide +kernel
theorem dX6_readLevel_175 : decode cX6_readLevel 175 = .ok (.iload 4, 2) := by decide +kernel
theorem dX6_readLevel_177 : decode cX6_readLevel 177 = .ok (.iastore, 1) := by decide +kernel
theorem dX6_readLevel_178 : decode cX6_readLevel 178 = .ok (.aload_n 0, 1) := by decide +kernel
theorem dX6_readLevel_179 : decode cX6_readLevel 179 = .ok (.getfield 18, 3) := by decide +kernel
theorem dX6_readLevel_182 : decode cX6_readLevel 182 = .ok (.getfield 94, 3) := by decide +kernel
theorem dX6_readLevel_185 : decode cX6_readLevel 185 = .ok (.iload_n 1, 1) := by decide +kernel
theorem dX6_readLevel_186 : decode cX6_readLevel 186 = .ok (.iload 5, 2) := by decide +kernel
theorem dX6_readLevel_188 : decode cX6_readLevel 188 = .ok (.iastore, 1) := by decide +kernel
theorem dX6_readLevel_189 : decode cX6_readLevel 189 = .ok (.aload_n 0, 1) := by decide +kernel
theorem dX6_readLevel_190 : decode cX6_readLevel 190 = .ok (.getfield 18, 3) := by decide +kernel
theorem dX6_readLevel_193 : decode cX6_readLevel 193 = .ok (.iload_n 1, 1) := by decide +kernel
theorem dX6_readLevel_194 : decode cX6_readLevel 194 = .ok (.iconst 1, 1) := by decide +kernel
theorem dX6_readLevel_195 : decode cX6_readLevel 195 = .ok (.iadd, 1) := by decide +kernel
theorem dX6_readLevel_196 : decode cX6_readLevel 196 = .ok (.putfield 22, 3) := by decide +kernel
theorem dX6_readLevel_199 : decode cX6_readLevel 199 = .ok (.iconst 1, 1) := by decide +kernel
theorem dX6_readLevel_200 : decode cX6_readLevel 200 = .ok (.ireturn, 1) := by decide +kernel
theorem dX6_readClub_0 : decode cX6_readClub 0 = .ok (.iload_n 1, 1) := by decide +kernel
theorem dX6_readClub_1 : decode cX6_readClub 1 = .ok (.bipush 30, 2) := by decide +kernel
theorem dX6_readClub_3 : decode cX6_readClub 3 = .ok (.if_icmp .lt 12, 3) := by decide +kernel
theorem dX6_readClub_6 : decode cX6_readClub 6 = .ok (.aload_n 0, 1) := by decide +kernel
theorem dX6_readClub_7 : decode cX6_readClub 7 = .ok (.getfield 9, 3) := by decide +kernel
theorem dX6_readClub_10 : decode cX6_readClub 10 = .ok (.iconst 4, 1) := by decide +kernel
theorem dX6_readClub_11 : decode cX6_readClub 11 = .ok (.invokevirtual 44, 3) := by decide +kernel
theorem dX6_readClub_14 : decode cX6_readClub 14 = .ok (.ireturn, 1) := by decide +kernel
theorem dX6_readClub_15 : decode cX6_readClub 15 = .ok (.aload_n 0, 1) := by decide +kernel
theorem dX6_readClub_16 : decode cX6_readClub 16 = .ok (.getfield 9, 3) := by decide +kernel
theorem dX6_readClub_19 : decode cX6_readClub 19 = .ok (.invokevirtual 97, 3) := by decide +kernel
theorem dX6_readClub_22 : decode cX6_readClub 22 = .ok (.ifCond .ne 5, 3) := by decide +kernel
theorem dX6_readClub_25 : decode cX6_readClub 25 = .ok (.iconst 0, 1) := by decide +kernel
theorem dX6_readClub_26 : decode cX6_readClub 26 = .ok (.ireturn, 1) := by decide +kernel
theorem dX6_readClub_27 : decode cX6_readClub 27 = .ok (.aload_n 0, 1) := by decide +kernel
theorem dX6_readClub_28 : decode cX6_readClub 28 = .ok (.getfield 18, 3) := by decide +kernel
theorem dX6_readClub_31 : decode cX6_readClub 31 = .ok (.aload_n 0, 1) := by decide +kernel
theorem dX6_readClub_32 : decode cX6_readClub 32 = .ok (.getfield 9, 3) := by decide +kernel
theorem dX6_readClub_35 : decode cX6_readClub 35 = .ok (.getfield 100, 3) := by decide +kernel
theorem dX6_readClub_38 : decode cX6_readClub 38 = .ok (.invokevirtual 104, 3) := by decide +kernel
theorem dX6_readClub_41 : decode cX6_readClub 41 = .ok (.iconst (-1), 1) := by decide +kernel
theorem dX6_readClub_42 : decode cX6_readClub 42 = .ok (.if_icmp .eq 12, 3) := by decide +kernel
theorem dX6_readClub_45 : decode cX6_readClub 45 = .ok (.aload_n 0, 1) := by decide +kernel
theorem dX6_readClub_46 : decode cX6_readClub 46 = .ok (.getfield 9, 3) := by decide +kernel
theorem dX6_readClub_49 : decode cX6_readClub 49 = .ok (.iconst 2, 1) := by decide +kernel
theorem dX6_readClub_50 : decode cX6_readClub 50 = .ok (.invokevirtual 44, 3) := by decide +kernel
theorem dX6_readClub_53 : decode cX6_readClub 53 = .ok (.ireturn, 1) := by decide +kernel
theorem dX6_readClub_54 : decode cX6_readClub 54 = .ok (.aload_n 0, 1) := by decide +kernel
theorem dX6_readClub_55 : decode cX6_readClub 55 = .ok (.getfield 18, 3) := by decide +kernel
theorem dX6_readClub_58 : decode cX6_readClub 58 = .ok (.getfield 108, 3) := by decide +kernel
theorem dX6_readClub_61 : decode cX6_readClub 61 = .ok (.iload_n 1, 1) := by decide +kernel
theorem dX6_readClub_62 : decode cX6_readClub 62 = .ok (.aload_n 0, 1) := by decide +kernel
theorem dX6_readClub_63 : decode cX6_readClub 63 = .ok (.getfield 9, 3) := by decide +kernel
theorem dX6_readClub_66 : decode cX6_readClub 66 = .ok (.getfield 100, 3) := by decide +kernel
theorem dX6_readClub_69 : decode cX6_readClub 69 = .ok (.lastore, 1) := by decide +kernel
theorem dX6_readClub_70 : decode cX6_readClub 70 = .ok (.aload_n 0, 1) := by decide +kernel
theorem dX6_readClub_71 : decode cX6_readClub 71 = .ok (.getfield 18, 3) := by decide +kernel
theorem dX6_readClub_74 : decode cX6_readClub 74 = .ok (.getfield 112, 3) := by decide +kernel
theorem dX6_readClub_77 : decode cX6_readClub 77 = .ok (.iload_n 1, 1) := by decide +kernel
theorem dX6_readClub_78 : decode cX6_readClub 78 = .ok (.aload_n 0, 1) := by decide +kernel
theorem dX6_readClub_79 : decode cX6_readClub 79 = .ok (.getfield 9, 3) := by decide +kernel
theorem dX6_readClub_82 : decode cX6_readClub 82 = .ok (.iconst 0, 1) := by decide +kernel
theorem dX6_readClub_83 : decode cX6_readClub 83 = .ok (.bipush 99, 2) := by decide +kernel
theorem dX6_readClub_85 : decode cX6_readClub 85 = .ok (.invokevirtual 62, 3) := by decide +kernel
theorem dX6_readClub_88 : decode cX6_readClub 88 = .ok (.iastore, 1) := by decide +kernel
theorem dX6_readClub_89 : decode cX6_readClub 89 = .ok (.aload_n 0, 1) := by decide +kernel
theorem dX6_readClub_90 : decode cX6_readClub 90 = .ok (.getfield 18, 3) := by decide +kernel
theorem dX6_readClub_93 : decode cX6_readClub 93 = .ok (.getfield 112, 3) := by decide +kernel
theorem dX6_readClub_96 : decode cX6_readClub 96 = .ok (.iload_n 1, 1) := by decide +kernel
theorem dX6_readClub_97 : decode cX6_readClub 97 = .ok (.iaload, 1) := by decide +kernel
theorem dX6_readClub_98 : decode cX6_readClub 98 = .ok (.iconst (-1), 1) := by decide +kernel
theorem dX6_readClub_99 : decode cX6_readClub 99 = .ok (.if_icmp .ne 5, 3) := by decide +kernel
theorem dX6_readClub_102 : decode cX6_readClub 102 = .ok (.iconst 0, 1) := by decide +kernel
theorem dX6_readClub_103 : decode cX6_readClub 103 = .ok (.ireturn, 1) := by decide +kernel
theorem dX6_readClub_104 : decode cX6_readClub 104 = .ok (.aload_n 0, 1) := by decide +kernel
theorem dX6_readClub_105 : decode cX6_readClub 105 = .ok (.getfield 18, 3) := by decide +kernel
theorem dX6_readClub_108 : decode cX6_readClub 108 = .ok (.getfield 115, 3) := by decide +kernel
theorem dX6_readClub_111 : decode cX6_readClub 111 = .ok (.iload_n 1, 1) := by decide +kernel
theorem dX6_readClub_112 : decode cX6_readClub 112 = .ok (.aload_n 0, 1) := by decide +kernel
theorem dX6_readClub_113 : decode cX6_readClub 113 = .ok (.getfield 9, 3) := by decide +kernel
theorem dX6_readClub_116 : decode cX6_readClub 116 = .ok (.iconst 0, 1) := by decide +kernel
theorem dX6_readClub_117 : decode cX6_readClub 117 = .ok (.bipush 99, 2) := by decide +kernel
theorem dX6_readClub_119 : decode cX6_readClub 119 = .ok (.invokevirtual 62, 3) := by decide +kernel
theorem dX6_readClub_122 : decode cX6_readClub 122 = .ok (.iastore, 1) := by decide +kernel
theorem dX6_readClub_123 : decode cX6_readClub 123 = .ok (.aload_n 0, 1) := by decide +kernel
theorem dX6_readClub_124 : decode cX6_readClub 124 = .ok (.getfield 18, 3) := by decide +kernel
theorem dX6_readClub_127 : decode cX6_readClub 127 = .ok (.getfield 115, 3) := by decide +kernel
theorem dX6_readClub_130 : decode cX6_readClub 130 = .ok (.iload_n 1, 1) := by decide +kernel
theorem dX6_readClub_131 : decode cX6_readClub 131 = .ok (.iaload, 1) := by decide +kernel
theorem dX6_readClub_132 : decode cX6_readClub 132 = .ok (.iconst (-1), 1) := by decide +kernel
theorem dX6_readClub_133 : decode cX6_readClub 133 = .ok (.if_icmp .eq 16, 3) := by decide +kernel
theorem dX6_readClub_136 : decode cX6_readClub 136 = .ok (.aload_n 0, 1) := by decide +kernel
theorem dX6_readClub_137 : decode cX6_readClub 137 = .ok (.getfield 9, 3) := by decide +kernel
theorem dX6_readClub_140 : decode cX6_readClub 140 = .ok (.ldc2_w 118, 3) := by decide +kernel
theorem dX6_readClub_143 : decode cX6_readClub 143 = .ok (.invokevirtual 68, 3) := by decide +kernel
theorem dX6_readClub_146 : decode cX6_readClub 146 = .ok (.ifCond .ne 5, 3) := by decide +kernel
theorem dX6_readClub_149 : decode cX6_readClub 149 = .ok (.iconst 0, 1) := by decide +kernel
theorem dX6_readClub_150 : decode cX6_readClub 150 = .ok (.ireturn, 1) := by decide +kernel
theorem dX6_readClub_151 : decode cX6_readClub 151 = .ok (.aload_n 0, 1) := by decide +kernel
theorem dX6_readClub_152 : decode cX6_readClub 152 = .ok (.getfield 18, 3) := by decide +kernel
theorem dX6_readClub_155 : decode cX6_readClub 155 = .ok (.getfield 120, 3) := by decide +kernel
theorem dX6_readClub_158 : decode cX6_readClub 158 = .ok (.iload_n 1, 1) := by decide +kernel
theorem dX6_readClub_159 : decode cX6_readClub 159 = .ok (.aload_n 0, 1) := by decide +kernel
theorem dX6_readClub_160 : decode cX6_readClub 160 = .ok (.getfield 9, 3) := by decide +kernel
theorem dX6_readClub_163 : decode cX6_readClub 163 = .ok (.iconst 0, 1) := by decide +kernel
theorem dX6_readClub_164 : decode cX6_readClub 164 = .ok (.bipush 9, 2) := by decide +kernel
theorem dX6_readClub_166 : decode cX6_readClub 166 = .ok (.invokevirtual 62, 3) := by decide +kernel
theorem dX6_readClub_169 : decode cX6_readClub 169 = .ok (.iastore, 1) := by decide +kernel
theorem dX6_readClub_170 : decode cX6_readClub 170 = .ok (.aload_n 0, 1) := by decide +kernel
theorem dX6_readClub_171 : decode cX6_readClub 171 = .ok (.getfield 18, 3) := by decide +kernel
theorem dX6_readClub_174 : decode cX6_readClub 174 = .ok (.getfield 120, 3) := by decide +kernel
theorem dX6_readClub_177 : decode cX6_readClub 177 = .ok (.iload_n 1, 1) := by decide +kernel
theorem dX6_readClub_178 : decode cX6_readClub 178 = .ok (.iaload, 1) := by decide +kernel
theorem dX6_readClub_179 : decode cX6_readClub 179 = .ok (.iconst (-1), 1) := by decide +kernel
theorem dX6_readClub_180 : decode cX6_readClub 180 = .ok (.if_icmp .eq 11, 3) := by decide +kernel
theorem dX6_readClub_183 : decode cX6_readClub 183 = .ok (.aload_n 0, 1) := by decide +kernel
theorem dX6_readClub_184 : decode cX6_readClub 184 = .ok (.iload_n 1, 1) := by decide +kernel
theorem dX6_readClub_185 : decode cX6_readClub 185 = .ok (.invokevirtual 123, 3) := by decide +kernel
theorem dX6_readClub_188 : decode cX6_readClub 188 = .ok (.ifCond .ne 5, 3) := by decide +kernel
theorem dX6_readClub_191 : decode cX6_readClub 191 = .ok (.iconst 0, 1) := by decide +kernel
theorem dX6_readClub_192 : decode cX6_readClub 192 = .ok (.ireturn, 1) := by decide +kernel
theorem dX6_readClub_193 : decode cX6_readClub 193 = .ok (.aload_n 0, 1) := by decide +kernel
theorem dX6_readClub_194 : decode cX6_readClub 194 = .ok (.getfield 18, 3) := by decide +kernel
theorem dX6_readClub_197 : decode cX6_readClub 197 = .ok (.iload_n 1, 1) := by decide +kernel
theorem dX6_readClub_198 : decode cX6_readClub 198 = .ok (.iconst 1, 1) := by decide +kernel
theorem dX6_readClub_199 : decode cX6_readClub 199 = .ok (.iadd, 1) := by decide +kernel
theorem dX6_readClub_200 : decode cX6_readClub 200 = .ok (.putfield 26, 3) := by decide +kernel
theorem dX6_readClub_203 : decode cX6_readClub 203 = .ok (.iconst 1, 1) := by decide +kernel
theorem dX6_readClub_204 : decode cX6_readClub 204 = .ok (.ireturn, 1) := by decide +kernel
theorem dX6_readPlace_0 : decode cX6_readPlace 0 = .ok (.aload_n 0, 1) := by decide +kernel
theorem dX6_readPlace_1 : decode cX6_readPlace 1 = .ok (.getfield 18, 3) := by decide +kernel
theorem dX6_readPlace_4 : decode cX6_readPlace 4 = .ok (.getfield 126, 3) := by decide +kernel
theorem dX6_readPlace_7 : decode cX6_readPlace 7 = .ok (.iload_n 1, 1) := by decide +kernel
theorem dX6_readPlace_8 : decode cX6_readPlace 8 = .ok (.iconst (-1), 1) := by decide +kernel
theorem dX6_readPlace_9 : decode cX6_readPlace 9 = .ok (.iastore, 1) := by decide +kernel
theorem dX6_readPlace_10 : decode cX6_readPlace 10 = .ok (.aload_n 0, 1) := by decide +kernel
theorem dX6_readPlace_11 : decode cX6_readPlace 11 = .ok (.getfield 18, 3) := by decide +kernel
theorem dX6_readPlace_14 : decode cX6_readPlace 14 = .ok (.getfield 129, 3) := by decide +kernel
theorem dX6_readPlace_17 : decode cX6_readPlace 17 = .ok (.iload_n 1, 1) := by decide +kernel
theorem dX6_readPlace_18 : decode cX6_readPlace 18 = .ok (.iconst (-1), 1) := by decide +kernel
theorem dX6_readPlace_19 : decode cX6_readPlace 19 = .ok (.iastore, 1) := by decide +kernel
theorem dX6_readPlace_20 : decode cX6_readPlace 20 = .ok (.aload_n 0, 1) := by decide +kernel
theorem dX6_readPlace_21 : decode cX6_readPlace 21 = .ok (.getfield 9, 3) := by decide +kernel
theorem dX6_readPlace_24 : decode cX6_readPlace 24 = .ok (.invokevirtual 34, 3) := by decide +kernel
theorem dX6_readPlace_27 : decode cX6_readPlace 27 = .ok (.aload_n 0, 1) := by decide +kernel
theorem dX6_readPlace_28 : decode cX6_readPlace 28 = .ok (.getfield 9, 3) := by decide +kernel
theorem dX6_readPlace_31 : decode cX6_readPlace 31 = .ok (.ldc2_w 132, 3) := by decide +kernel
theorem dX6_readPlace_34 : decode cX6_readPlace 34 = .ok (.invokevirtual 50, 3) := by decide +kernel
theorem dX6_readPlace_37 : decode cX6_readPlace 37 = .ok (.ifCond .ne 32, 3) := by decide +kernel
theorem dX6_readPlace_40 : decode cX6_readPlace 40 = .ok (.aload_n 0, 1) := by decide +kernel
theorem dX6_readPlace_41 : decode cX6_readPlace 41 = .ok (.getfield 9, 3) := by decide +kernel
theorem dX6_readPlace_44 : decode cX6_readPlace 44 = .ok (.bipush 59, 2) := by decide +kernel
theorem dX6_readPlace_46 : decode cX6_readPlace 46 = .ok (.invokevirtual 134, 3) := by decide +kernel
theorem dX6_readPlace_49 : decode cX6_readPlace 49 = .ok (.ifCond .ne 14, 3) := by decide +kernel
theorem dX6_readPlace_52 : decode cX6_readPlace 52 = .ok (.aload_n 0, 1) := by decide +kernel
theorem dX6_readPlace_53 : decode cX6_readPlace 53 = .ok (.getfield 9, 3) := by decide +kernel
theorem dX6_readPlace_56 : decode cX6_readPlace 56 = .ok (.iconst 1, 1) := by decide +kernel
theorem dX6_readPlace_57 : decode cX6_readPlace 57 = .ok (.invokevirtual 44, 3) := by decide +kernel
theorem dX6_readPlace_60 : decode cX6_readPlace 60 = .ok (.ifCond .eq 7, 3) := by decide +kernel
theorem dX6_readPlace_63 : decode cX6_readPlace 63 = .ok (.iconst 1, 1) := by decide +kernel
theorem dX6_readPlace_64 : decode cX6_readPlace 64 = .ok (.goto 4, 3) := by decide +kernel
theorem dX6_readPlace_67 : decode cX6_readPlace 67 = .ok (.iconst 0, 1) := by decide +kernel
theorem dX6_readPlace_68 : decode cX6_readPlace 68 = .ok (.ireturn, 1) := by decide +kernel
theorem dX6_readPlace_69 : decode cX6_readPlace 69 = .ok (.aload_n 0, 1) := by decide +kernel
theorem dX6_readPlace_70 : decode cX6_readPlace 70 = .ok (.getfield 9, 3) := by decide +kernel
theorem dX6_readPlace_73 : decode cX6_readPlace 73 = .ok (.iconst 0, 1) := by decide +kernel
theorem dX6_readPlace_74 : decode cX6_readPlace 74 = .ok (.aload_n 0, 1) := by decide +kernel
theorem dX6_readPlace_75 : decode cX6_readPlace 75 = .ok (.getfield 18, 3) := by decide +kernel
theorem dX6_readPlace_78 : decode cX6_readPlace 78 = .ok (.getfield 22, 3) := by decide +kernel
theorem dX6_readPlace_81 : decode cX6_readPlace 81 = .ok (.iconst 1, 1) := by decide +kernel
theorem dX6_readPlace_82 : decode cX6_readPlace 82 = .ok (.isub, 1) := by decide +kernel
theorem dX6_readPlace_83 : decode cX6_readPlace 83 = .ok (.invokevirtual 62, 3) := by decide +kernel
theorem dX6_readPlace_86 : decode cX6_readPlace 86 = .ok (.istore_n 2, 1) := by decide +kernel
theorem dX6_readPlace_87 : decode cX6_readPlace 87 = .ok (.aload_n 0, 1) := by decide +kernel
theorem dX6_readPlace_88 : decode cX6_readPlace 88 = .ok (.getfield 18, 3) := by decide +kernel
theorem dX6_readPlace_91 : decode cX6_readPlace 91 = .ok (.iload_n 2, 1) := by decide +kernel
theorem dX6_readPlace_92 : decode cX6_readPlace 92 = .ok (.invokevirtual 137, 3) := by decide +kernel
theorem dX6_readPlace_95 : decode cX6_readPlace 95 = .ok (.ifCond .ne 5, 3) := by decide +kernel
theorem dX6_readPlace_98 : decode cX6_readPlace 98 = .ok (.iconst 0, 1) := by decide +kernel
theorem dX6_readPlace_99 : decode cX6_readPlace 99 = .ok (.ireturn, 1) := by decide +kernel
theorem dX6_readPlace_100 : decode cX6_readPlace 100 = .ok (.aload_n 0, 1) := by decide +kernel
theorem dX6_readPlace_101 : decode cX6_readPlace 101 = .ok (.getfield 9, 3) := by decide +kernel
theorem dX6_readPlace_104 : decode cX6_readPlace 104 = .ok (.iconst 0, 1) := by decide +kernel
theorem dX6_readPlace_105 : decode cX6_readPlace 105 = .ok (.aload_n 0, 1) := by decide +kernel
theorem dX6_readPlace_106 : decode cX6_readPlace 106 = .ok (.getfield 18, 3) := by decide +kernel
theorem dX6_readPlace_109 : decode cX6_readPlace 109 = .ok (.getfield 84, 3) := by decide +kernel
theorem dX6_readPlace_112 : decode cX6_readPlace 112 = .ok (.iload_n 2, 1) := by decide +kernel
theorem dX6_readPlace_113 : decode cX6_readPlace 113 = .ok (.iaload, 1) := by decide +kernel
theorem dX6_readPlace_114 : decode cX6_readPlace 114 = .ok (.iconst 1, 1) := by decide +kernel
theorem dX6_readPlace_115 : decode cX6_readPlace 115 = .ok (.isub, 1) := by decide +kernel
theorem dX6_readPlace_116 : decode cX6_readPlace 116 = .ok (.invokevirtual 62, 3) := by decide +kernel
theorem dX6_readPlace_119 : decode cX6_readPlace 119 = .ok (.istore_n 3, 1) := by decide +kernel
theorem dX6_readPlace_120 : decode cX6_readPlace 120 = .ok (.iload_n 3, 1) := by decide +kernel
theorem dX6_readPlace_121 : decode cX6_readPlace 121 = .ok (.iconst (-1), 1) := by decide +kernel
theorem dX6_readPlace_122 : decode cX6_readPlace 122 = .ok (.if_icmp .ne 5, 3) := by decide +kernel
theorem dX6_readPlace_125 : decode cX6_readPlace 125 = .ok (.iconst 0, 1) := by decide +kernel
theorem dX6_readPlace_126 : decode cX6_readPlace 126 = .ok (.ireturn, 1) := by decide +kernel
theorem dX6_readPlace_127 : decode cX6_readPlace 127 = .ok (.aload_n 0, 1) := by decide +kernel
theorem dX6_readPlace_128 : decode cX6_readPlace 128 = .ok (.getfield 18, 3) := by decide +kernel
theorem dX6_readPlace_131 : decode cX6_readPlace 131 = .ok (.iload_n 2, 1) := by decide +kernel
theorem dX6_readPlace_132 : decode cX6_readPlace 132 = .ok (.iload_n 3, 1) := by decide +kernel
theorem dX6_readPlace_133 : decode cX6_readPlace 133 = .ok (.invokevirtual 140, 3) := by decide +kernel
theorem dX6_readPlace_136 : decode cX6_readPlace 136 = .ok (.aload_n 0, 1) := by decide +kernel
theorem dX6_readPlace_137 : decode cX6_readPlace 137 = .ok (.getfield 18, 3) := by decide +kernel
theorem dX6_readPlace_140 : decode cX6_readPlace 140 = .ok (.getfield 88, 3) := by decide +kernel
theorem dX6_readPlace_143 : decode cX6_readPlace 143 = .ok (.iload_n 2, 1) := by decide +kernel
theorem dX6_readPlace_144 : decode cX6_readPlace 144 = .ok (.iaload, 1) := by decide +kernel
theorem dX6_readPlace_145 : decode cX6_readPlace 145 = .ok (.if_icmp .lt 12, 3) := by decide +kernel
theorem dX6_readPlace_148 : decode cX6_readPlace 148 = .ok (.aload_n 0, 1) := by decide +kernel
theorem dX6_readPlace_149 : decode cX6_readPlace 149 = .ok (.getfield 9, 3) := by decide +kernel
theorem dX6_readPlace_152 : decode cX6_readPlace 152 = .ok (.iconst 3, 1) := by decide +kernel
theorem dX6_readPlace_153 : decode cX6_readPlace 153 = .ok (.invokevirtual 44, 3) := by decide +kernel
theorem dX6_readPlace_156 : decode cX6_readPlace 156 = .ok (.ireturn, 1) := by decide +kernel
theorem dX6_readPlace_157 : decode cX6_readPlace 157 = .ok (.aload_n 0, 1) := by decide +kernel
theorem dX6_readPlace_158 : decode cX6_readPlace 158 = .ok (.getfield 18, 3) := by decide +kernel
theorem dX6_readPlace_161 : decode cX6_readPlace 161 = .ok (.getfield 126, 3) := by decide +kernel
theorem dX6_readPlace_164 : decode cX6_readPlace 164 = .ok (.iload_n 1, 1) := by decide +kernel
theorem dX6_readPlace_165 : decode cX6_readPlace 165 = .ok (.iload_n 2, 1) := by decide +kernel
theorem dX6_readPlace_166 : decode cX6_readPlace 166 = .ok (.iastore, 1) := by decide +kernel
theorem dX6_readPlace_167 : decode cX6_readPlace 167 = .ok (.aload_n 0, 1) := by decide +kernel
theorem dX6_readPlace_168 : decode cX6_readPlace 168 = .ok (.getfield 18, 3) := by decide +kernel
theorem dX6_readPlace_171 : decode cX6_readPlace 171 = .ok (.getfield 129, 3) := by decide +kernel
theorem dX6_readPlace_174 : decode cX6_readPlace 174 = .ok (.iload_n 1, 1) := by decide +kernel
theorem dX6_readPlace_175 : decode cX6_readPlace 175 = .ok (.iload_n 3, 1) := by decide +kernel
theorem dX6_readPlace_176 : decode cX6_readPlace 176 = .ok (.iastore, 1) := by decide +kernel
theorem dX6_readPlace_177 : decode cX6_readPlace 177 = .ok (.aload_n 0, 1) := by decide +kernel
theorem dX6_readPlace_178 : decode cX6_readPlace 178 = .ok (.getfield 9, 3) := by decide +kernel
theorem dX6_readPlace_181 : decode cX6_readPlace 181 = .ok (.bipush 59, 2) := by decide +kernel
theorem dX6_readPlace_183 : decode cX6_readPlace 183 = .ok (.invokevirtual 80, 3) := by decide +kernel
theorem dX6_readPlace_186 : decode cX6_readPlace 186 = .ok (.ireturn, 1) := by decide +kernel
theorem dX6_allFull_0 : decode cX6_allFull 0 = .ok (.iconst 0, 1) := by decide +kernel
theorem dX6_allFull_1 : decode cX6_allFull 1 = .ok (.istore_n 1, 1) := by decide +kernel
theorem dX6_allFull_2 : decode cX6_allFull 2 = .ok (.iload_n 1, 1) := by decide +kernel
theorem dX6_allFull_3 : decode cX6_allFull 3 = .ok (.aload_n 0, 1) := by decide +kernel
theorem dX6_allFull_4 : decode cX6_allFull 4 = .ok (.getfield 18, 3) := by decide +kernel
theorem dX6_allFull_7 : decode cX6_allFull 7 = .ok (.getfield 22, 3) := by decide +kernel
theorem dX6_allFull_10 : decode cX6_allFull 10 = .ok (.if_icmp .ge 41, 3) := by decide +kernel
theorem dX6_allFull_13 : decode cX6_allFull 13 = .ok (.aload_n 0, 1) := by decide +kernel
theorem dX6_allFull_14 : decode cX6_allFull 14 = .ok (.getfield 18, 3) := by decide +kernel
theorem dX6_allFull_17 : decode cX6_allFull 17 = .ok (.iload_n 1, 1) := by decide +kernel
theorem dX6_allFull_18 : decode cX6_allFull 18 = .ok (.invokevirtual 143, 3) := by decide +kernel
theorem dX6_allFull_21 : decode cX6_allFull 21 = .ok (.aload_n 0, 1) := by decide +kernel
theorem dX6_allFull_22 : decode cX6_allFull 22 = .ok (.getfield 18, 3) := by decide +kernel
theorem dX6_allFull_25 : decode cX6_allFull 25 = .ok (.getfield 84, 3) := by decide +kernel
theorem dX6_allFull_28 : decode cX6_allFull 28 = .ok (.iload_n 1, 1) := by decide +kernel
theorem dX6_allFull_29 : decode cX6_allFull 29 = .ok (.iaload, 1) := by decide +kernel
theorem dX6_allFull_30 : decode cX6_allFull 30 = .ok (.aload_n 0, 1) := by decide +kernel
