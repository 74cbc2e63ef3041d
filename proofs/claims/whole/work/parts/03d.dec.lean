theorem dX9_fewest_61 : decode cX9_fewest 61 = .ok (.if_icmp .eq 9, 3) := by decide +kernel
theorem dX9_fewest_64 : decode cX9_fewest 64 = .ok (.iload 4, 2) := by decide +kernel
theorem dX9_fewest_66 : decode cX9_fewest 66 = .ok (.iload_n 2, 1) := by decide +kernel
theorem dX9_fewest_67 : decode cX9_fewest 67 = .ok (.if_icmp .ge 8, 3) := by decide +kernel
theorem dX9_fewest_70 : decode cX9_fewest 70 = .ok (.iload 4, 2) := by decide +kernel
theorem dX9_fewest_72 : decode cX9_fewest 72 = .ok (.goto 4, 3) := by decide +kernel
theorem dX9_fewest_75 : decode cX9_fewest 75 = .ok (.iload_n 2, 1) := by decide +kernel
theorem dX9_fewest_76 : decode cX9_fewest 76 = .ok (.istore_n 2, 1) := by decide +kernel
theorem dX9_fewest_77 : decode cX9_fewest 77 = .ok (.iinc 3 1, 3) := by decide +kernel
theorem dX9_fewest_80 : decode cX9_fewest 80 = .ok (.goto (-76), 3) := by decide +kernel
theorem dX9_fewest_83 : decode cX9_fewest 83 = .ok (.iload_n 2, 1) := by decide +kernel
theorem dX9_fewest_84 : decode cX9_fewest 84 = .ok (.ireturn, 1) := by decide +kernel
theorem dX9_restFrom_0 : decode cX9_restFrom 0 = .ok (.iconst (-1), 1) := by decide +kernel
theorem dX9_restFrom_1 : decode cX9_restFrom 1 = .ok (.istore 6, 2) := by decide +kernel
theorem dX9_restFrom_3 : decode cX9_restFrom 3 = .ok (.iconst 0, 1) := by decide +kernel
theorem dX9_restFrom_4 : decode cX9_restFrom 4 = .ok (.istore 7, 2) := by decide +kernel
theorem dX9_restFrom_6 : decode cX9_restFrom 6 = .ok (.iload 7, 2) := by decide +kernel
theorem dX9_restFrom_8 : decode cX9_restFrom 8 = .ok (.aload_n 0, 1) := by decide +kernel
theorem dX9_restFrom_9 : decode cX9_restFrom 9 = .ok (.getfield 211, 3) := by decide +kernel
theorem dX9_restFrom_12 : decode cX9_restFrom 12 = .ok (.if_icmp .ge 142, 3) := by decide +kernel
theorem dX9_restFrom_15 : decode cX9_restFrom 15 = .ok (.iload_n 3, 1) := by decide +kernel
theorem dX9_restFrom_16 : decode cX9_restFrom 16 = .ok (.iload 7, 2) := by decide +kernel
theorem dX9_restFrom_18 : decode cX9_restFrom 18 = .ok (.ishr, 1) := by decide +kernel
theorem dX9_restFrom_19 : decode cX9_restFrom 19 = .ok (.iconst 1, 1) := by decide +kernel
theorem dX9_restFrom_20 : decode cX9_restFrom 20 = .ok (.iand, 1) := by decide +kernel
theorem dX9_restFrom_21 : decode cX9_restFrom 21 = .ok (.iconst 1, 1) := by decide +kernel
theorem dX9_restFrom_22 : decode cX9_restFrom 22 = .ok (.if_icmp .ne 7, 3) := by decide +kernel
theorem dX9_restFrom_25 : decode cX9_restFrom 25 = .ok (.iconst (-1), 1) := by decide +kernel
theorem dX9_restFrom_26 : decode cX9_restFrom 26 = .ok (.goto 10, 3) := by decide +kernel
theorem dX9_restFrom_29 : decode cX9_restFrom 29 = .ok (.aload_n 0, 1) := by decide +kernel
theorem dX9_restFrom_30 : decode cX9_restFrom 30 = .ok (.iload 7, 2) := by decide +kernel
theorem dX9_restFrom_32 : decode cX9_restFrom 32 = .ok (.iload_n 2, 1) := by decide +kernel
theorem dX9_restFrom_33 : decode cX9_restFrom 33 = .ok (.invokevirtual 214, 3) := by decide +kernel
theorem dX9_restFrom_36 : decode cX9_restFrom 36 = .ok (.istore 8, 2) := by decide +kernel
theorem dX9_restFrom_38 : decode cX9_restFrom 38 = .ok (.iload 8, 2) := by decide +kernel
theorem dX9_restFrom_40 : decode cX9_restFrom 40 = .ok (.iconst (-1), 1) := by decide +kernel
theorem dX9_restFrom_41 : decode cX9_restFrom 41 = .ok (.if_icmp .ne 7, 3) := by decide +kernel
theorem dX9_restFrom_44 : decode cX9_restFrom 44 = .ok (.iconst 0, 1) := by decide +kernel
theorem dX9_restFrom_45 : decode cX9_restFrom 45 = .ok (.goto 20, 3) := by decide +kernel
theorem dX9_restFrom_48 : decode cX9_restFrom 48 = .ok (.aload_n 0, 1) := by decide +kernel
theorem dX9_restFrom_49 : decode cX9_restFrom 49 = .ok (.getfield 62, 3) := by decide +kernel
theorem dX9_restFrom_52 : decode cX9_restFrom 52 = .ok (.iconst 4, 1) := by decide +kernel
theorem dX9_restFrom_53 : decode cX9_restFrom 53 = .ok (.iload 7, 2) := by decide +kernel
theorem dX9_restFrom_55 : decode cX9_restFrom 55 = .ok (.imul, 1) := by decide +kernel
theorem dX9_restFrom_56 : decode cX9_restFrom 56 = .ok (.iconst 2, 1) := by decide +kernel
theorem dX9_restFrom_57 : decode cX9_restFrom 57 = .ok (.iload 5, 2) := by decide +kernel
theorem dX9_restFrom_59 : decode cX9_restFrom 59 = .ok (.imul, 1) := by decide +kernel
theorem dX9_restFrom_60 : decode cX9_restFrom 60 = .ok (.iadd, 1) := by decide +kernel
theorem dX9_restFrom_61 : decode cX9_restFrom 61 = .ok (.iload 8, 2) := by decide +kernel
theorem dX9_restFrom_63 : decode cX9_restFrom 63 = .ok (.iadd, 1) := by decide +kernel
theorem dX9_restFrom_64 : decode cX9_restFrom 64 = .ok (.iaload, 1) := by decide +kernel
theorem dX9_restFrom_65 : decode cX9_restFrom 65 = .ok (.istore 9, 2) := by decide +kernel
theorem dX9_restFrom_67 : decode cX9_restFrom 67 = .ok (.iload 9, 2) := by decide +kernel
theorem dX9_restFrom_69 : decode cX9_restFrom 69 = .ok (.ifCond .le 79, 3) := by decide +kernel
theorem dX9_restFrom_72 : decode cX9_restFrom 72 = .ok (.aload_n 0, 1) := by decide +kernel
theorem dX9_restFrom_73 : decode cX9_restFrom 73 = .ok (.aload_n 0, 1) := by decide +kernel
theorem dX9_restFrom_74 : decode cX9_restFrom 74 = .ok (.iload 7, 2) := by decide +kernel
theorem dX9_restFrom_76 : decode cX9_restFrom 76 = .ok (.iload 8, 2) := by decide +kernel
theorem dX9_restFrom_78 : decode cX9_restFrom 78 = .ok (.invokevirtual 217, 3) := by decide +kernel
theorem dX9_restFrom_81 : decode cX9_restFrom 81 = .ok (.iload 4, 2) := by decide +kernel
theorem dX9_restFrom_83 : decode cX9_restFrom 83 = .ok (.invokevirtual 220, 3) := by decide +kernel
theorem dX9_restFrom_86 : decode cX9_restFrom 86 = .ok (.ifCond .eq 62, 3) := by decide +kernel
theorem dX9_restFrom_89 : decode cX9_restFrom 89 = .ok (.aload_n 0, 1) := by decide +kernel
theorem dX9_restFrom_90 : decode cX9_restFrom 90 = .ok (.getfield 72, 3) := by decide +kernel
theorem dX9_restFrom_93 : decode cX9_restFrom 93 = .ok (.bipush 9, 2) := by decide +kernel
theorem dX9_restFrom_95 : decode cX9_restFrom 95 = .ok (.iload_n 1, 1) := by decide +kernel
theorem dX9_restFrom_96 : decode cX9_restFrom 96 = .ok (.iconst 1, 1) := by decide +kernel
theorem dX9_restFrom_97 : decode cX9_restFrom 97 = .ok (.iload 7, 2) := by decide +kernel
theorem dX9_restFrom_99 : decode cX9_restFrom 99 = .ok (.ishl, 1) := by decide +kernel
theorem dX9_restFrom_100 : decode cX9_restFrom 100 = .ok (.ior, 1) := by decide +kernel
theorem dX9_restFrom_101 : decode cX9_restFrom 101 = .ok (.imul, 1) := by decide +kernel
theorem dX9_restFrom_102 : decode cX9_restFrom 102 = .ok (.aload_n 0, 1) := by decide +kernel
theorem dX9_restFrom_103 : decode cX9_restFrom 103 = .ok (.iload 7, 2) := by decide +kernel
theorem dX9_restFrom_105 : decode cX9_restFrom 105 = .ok (.iload 8, 2) := by decide +kernel
theorem dX9_restFrom_107 : decode cX9_restFrom 107 = .ok (.invokevirtual 217, 3) := by decide +kernel
theorem dX9_restFrom_110 : decode cX9_restFrom 110 = .ok (.iadd, 1) := by decide +kernel
theorem dX9_restFrom_111 : decode cX9_restFrom 111 = .ok (.iaload, 1) := by decide +kernel
theorem dX9_restFrom_112 : decode cX9_restFrom 112 = .ok (.istore 10, 2) := by decide +kernel
theorem dX9_restFrom_114 : decode cX9_restFrom 114 = .ok (.iload 10, 2) := by decide +kernel
theorem dX9_restFrom_116 : decode cX9_restFrom 116 = .ok (.iconst (-1), 1) := by decide +kernel
theorem dX9_restFrom_117 : decode cX9_restFrom 117 = .ok (.if_icmp .eq 27, 3) := by decide +kernel
theorem dX9_restFrom_120 : decode cX9_restFrom 120 = .ok (.iload 6, 2) := by decide +kernel
theorem dX9_restFrom_122 : decode cX9_restFrom 122 = .ok (.iconst (-1), 1) := by decide +kernel
theorem dX9_restFrom_123 : decode cX9_restFrom 123 = .ok (.if_icmp .eq 13, 3) := by decide +kernel
theorem dX9_restFrom_126 : decode cX9_restFrom 126 = .ok (.iload 10, 2) := by decide +kernel
theorem dX9_restFrom_128 : decode cX9_restFrom 128 = .ok (.iload 9, 2) := by decide +kernel
theorem dX9_restFrom_130 : decode cX9_restFrom 130 = .ok (.iadd, 1) := by decide +kernel
theorem dX9_restFrom_131 : decode cX9_restFrom 131 = .ok (.iload 6, 2) := by decide +kernel
theorem dX9_restFrom_133 : decode cX9_restFrom 133 = .ok (.if_icmp .ge 11, 3) := by decide +kernel
theorem dX9_restFrom_136 : decode cX9_restFrom 136 = .ok (.iload 10, 2) := by decide +kernel
theorem dX9_restFrom_138 : decode cX9_restFrom 138 = .ok (.iload 9, 2) := by decide +kernel
theorem dX9_restFrom_140 : decode cX9_restFrom 140 = .ok (.iadd, 1) := by decide +kernel
theorem dX9_restFrom_141 : decode cX9_restFrom 141 = .ok (.goto 5, 3) := by decide +kernel
theorem dX9_restFrom_144 : decode cX9_restFrom 144 = .ok (.iload 6, 2) := by decide +kernel
theorem dX9_restFrom_146 : decode cX9_restFrom 146 = .ok (.istore 6, 2) := by decide +kernel
theorem dX9_restFrom_148 : decode cX9_restFrom 148 = .ok (.iinc 7 1, 3) := by decide +kernel
theorem dX9_restFrom_151 : decode cX9_restFrom 151 = .ok (.goto (-145), 3) := by decide +kernel
theorem dX9_restFrom_154 : decode cX9_restFrom 154 = .ok (.iload 6, 2) := by decide +kernel
theorem dX9_restFrom_156 : decode cX9_restFrom 156 = .ok (.ireturn, 1) := by decide +kernel
theorem dX9_oddBy_0 : decode cX9_oddBy 0 = .ok (.iconst 0, 1) := by decide +kernel
theorem dX9_oddBy_1 : decode cX9_oddBy 1 = .ok (.istore_n 2, 1) := by decide +kernel
theorem dX9_oddBy_2 : decode cX9_oddBy 2 = .ok (.iconst 0, 1) := by decide +kernel
theorem dX9_oddBy_3 : decode cX9_oddBy 3 = .ok (.istore_n 3, 1) := by decide +kernel
theorem dX9_oddBy_4 : decode cX9_oddBy 4 = .ok (.iload_n 3, 1) := by decide +kernel
theorem dX9_oddBy_5 : decode cX9_oddBy 5 = .ok (.aload_n 0, 1) := by decide +kernel
theorem dX9_oddBy_6 : decode cX9_oddBy 6 = .ok (.getfield 211, 3) := by decide +kernel
theorem dX9_oddBy_9 : decode cX9_oddBy 9 = .ok (.if_icmp .ge 42, 3) := by decide +kernel
theorem dX9_oddBy_12 : decode cX9_oddBy 12 = .ok (.iload_n 2, 1) := by decide +kernel
theorem dX9_oddBy_13 : decode cX9_oddBy 13 = .ok (.iload_n 1, 1) := by decide +kernel
theorem dX9_oddBy_14 : decode cX9_oddBy 14 = .ok (.iload_n 3, 1) := by decide +kernel
theorem dX9_oddBy_15 : decode cX9_oddBy 15 = .ok (.ishr, 1) := by decide +kernel
theorem dX9_oddBy_16 : decode cX9_oddBy 16 = .ok (.iconst 1, 1) := by decide +kernel
theorem dX9_oddBy_17 : decode cX9_oddBy 17 = .ok (.iand, 1) := by decide +kernel
theorem dX9_oddBy_18 : decode cX9_oddBy 18 = .ok (.iconst 1, 1) := by decide +kernel
theorem dX9_oddBy_19 : decode cX9_oddBy 19 = .ok (.if_icmp .ne 23, 3) := by decide +kernel
theorem dX9_oddBy_22 : decode cX9_oddBy 22 = .ok (.iconst 1, 1) := by decide +kernel
theorem dX9_oddBy_23 : decode cX9_oddBy 23 = .ok (.aload_n 0, 1) := by decide +kernel
theorem dX9_oddBy_24 : decode cX9_oddBy 24 = .ok (.getfield 17, 3) := by decide +kernel
theorem dX9_oddBy_27 : decode cX9_oddBy 27 = .ok (.iload_n 3, 1) := by decide +kernel
theorem dX9_oddBy_28 : decode cX9_oddBy 28 = .ok (.iaload, 1) := by decide +kernel
theorem dX9_oddBy_29 : decode cX9_oddBy 29 = .ok (.ishl, 1) := by decide +kernel
theorem dX9_oddBy_30 : decode cX9_oddBy 30 = .ok (.iconst 1, 1) := by decide +kernel
theorem dX9_oddBy_31 : decode cX9_oddBy 31 = .ok (.aload_n 0, 1) := by decide +kernel
theorem dX9_oddBy_32 : decode cX9_oddBy 32 = .ok (.getfield 20, 3) := by decide +kernel
theorem dX9_oddBy_35 : decode cX9_oddBy 35 = .ok (.iload_n 3, 1) := by decide +kernel
theorem dX9_oddBy_36 : decode cX9_oddBy 36 = .ok (.iaload, 1) := by decide +kernel
theorem dX9_oddBy_37 : decode cX9_oddBy 37 = .ok (.ishl, 1) := by decide +kernel
theorem dX9_oddBy_38 : decode cX9_oddBy 38 = .ok (.ixor, 1) := by decide +kernel
theorem dX9_oddBy_39 : decode cX9_oddBy 39 = .ok (.goto 4, 3) := by decide +kernel
theorem dX9_oddBy_42 : decode cX9_oddBy 42 = .ok (.iconst 0, 1) := by decide +kernel
theorem dX9_oddBy_43 : decode cX9_oddBy 43 = .ok (.ixor, 1) := by decide +kernel
theorem dX9_oddBy_44 : decode cX9_oddBy 44 = .ok (.istore_n 2, 1) := by decide +kernel
theorem dX9_oddBy_45 : decode cX9_oddBy 45 = .ok (.iinc 3 1, 3) := by decide +kernel
theorem dX9_oddBy_48 : decode cX9_oddBy 48 = .ok (.goto (-44), 3) := by decide +kernel
theorem dX9_oddBy_51 : decode cX9_oddBy 51 = .ok (.iload_n 2, 1) := by decide +kernel
theorem dX9_oddBy_52 : decode cX9_oddBy 52 = .ok (.ireturn, 1) := by decide +kernel
theorem dX9_backward_0 : decode cX9_backward 0 = .ok (.iconst 1, 1) := by decide +kernel
theorem dX9_backward_1 : decode cX9_backward 1 = .ok (.aload_n 0, 1) := by decide +kernel
theorem dX9_backward_2 : decode cX9_backward 2 = .ok (.getfield 211, 3) := by decide +kernel
theorem dX9_backward_5 : decode cX9_backward 5 = .ok (.ishl, 1) := by decide +kernel
theorem dX9_backward_6 : decode cX9_backward 6 = .ok (.iconst 1, 1) := by decide +kernel
theorem dX9_backward_7 : decode cX9_backward 7 = .ok (.isub, 1) := by decide +kernel
theorem dX9_backward_8 : decode cX9_backward 8 = .ok (.istore_n 3, 1) := by decide +kernel
theorem dX9_backward_9 : decode cX9_backward 9 = .ok (.iload_n 3, 1) := by decide +kernel
theorem dX9_backward_10 : decode cX9_backward 10 = .ok (.ifCond .lt 187, 3) := by decide +kernel
theorem dX9_backward_13 : decode cX9_backward 13 = .ok (.aload_n 0, 1) := by decide +kernel
theorem dX9_backward_14 : decode cX9_backward 14 = .ok (.iload_n 3, 1) := by decide +kernel
theorem dX9_backward_15 : decode cX9_backward 15 = .ok (.invokevirtual 224, 3) := by decide +kernel
theorem dX9_backward_18 : decode cX9_backward 18 = .ok (.istore 4, 2) := by decide +kernel
theorem dX9_backward_20 : decode cX9_backward 20 = .ok (.aload_n 0, 1) := by decide +kernel
theorem dX9_backward_21 : decode cX9_backward 21 = .ok (.iload_n 3, 1) := by decide +kernel
theorem dX9_backward_22 : decode cX9_backward 22 = .ok (.invokevirtual 227, 3) := by decide +kernel
theorem dX9_backward_25 : decode cX9_backward 25 = .ok (.istore 5, 2) := by decide +kernel
theorem dX9_backward_27 : decode cX9_backward 27 = .ok (.iload_n 2, 1) := by decide +kernel
theorem dX9_backward_28 : decode cX9_backward 28 = .ok (.iconst (-1), 1) := by decide +kernel
theorem dX9_backward_29 : decode cX9_backward 29 = .ok (.if_icmp .eq 17, 3) := by decide +kernel
theorem dX9_backward_32 : decode cX9_backward 32 = .ok (.iload 5, 2) := by decide +kernel
theorem dX9_backward_34 : decode cX9_backward 34 = .ok (.iload_n 2, 1) := by decide +kernel
theorem dX9_backward_35 : decode cX9_backward 35 = .ok (.ishr, 1) := by decide +kernel
theorem dX9_backward_36 : decode cX9_backward 36 = .ok (.iconst 1, 1) := by decide +kernel
theorem dX9_backward_37 : decode cX9_backward 37 = .ok (.iand, 1) := by decide +kernel
theorem dX9_backward_38 : decode cX9_backward 38 = .ok (.iconst 1, 1) := by decide +kernel
theorem dX9_backward_39 : decode cX9_backward 39 = .ok (.if_icmp .ne 7, 3) := by decide +kernel
theorem dX9_backward_42 : decode cX9_backward 42 = .ok (.iconst 1, 1) := by decide +kernel
theorem dX9_backward_43 : decode cX9_backward 43 = .ok (.goto 4, 3) := by decide +kernel
theorem dX9_backward_46 : decode cX9_backward 46 = .ok (.iconst 0, 1) := by decide +kernel
theorem dX9_backward_47 : decode cX9_backward 47 = .ok (.istore 6, 2) := by decide +kernel
theorem dX9_backward_49 : decode cX9_backward 49 = .ok (.iconst 0, 1) := by decide +kernel
theorem dX9_backward_50 : decode cX9_backward 50 = .ok (.istore 7, 2) := by decide +kernel
theorem dX9_backward_52 : decode cX9_backward 52 = .ok (.iload 7, 2) := by decide +kernel
theorem dX9_backward_54 : decode cX9_backward 54 = .ok (.bipush 9, 2) := by decide +kernel
theorem dX9_backward_56 : decode cX9_backward 56 = .ok (.if_icmp .ge 135, 3) := by decide +kernel
theorem dX9_backward_59 : decode cX9_backward 59 = .ok (.iload_n 3, 1) := by decide +kernel
theorem dX9_backward_60 : decode cX9_backward 60 = .ok (.ifCond .eq 16, 3) := by decide +kernel
theorem dX9_backward_63 : decode cX9_backward 63 = .ok (.iload 7, 2) := by decide +kernel
theorem dX9_backward_65 : decode cX9_backward 65 = .ok (.aload_n 0, 1) := by decide +kernel
theorem dX9_backward_66 : decode cX9_backward 66 = .ok (.getfield 99, 3) := by decide +kernel
theorem dX9_backward_69 : decode cX9_backward 69 = .ok (.if_icmp .ne 7, 3) := by decide +kernel
theorem dX9_backward_72 : decode cX9_backward 72 = .ok (.iconst 1, 1) := by decide +kernel
theorem dX9_backward_73 : decode cX9_backward 73 = .ok (.goto 4, 3) := by decide +kernel
theorem dX9_backward_76 : decode cX9_backward 76 = .ok (.iconst 0, 1) := by decide +kernel
theorem dX9_backward_77 : decode cX9_backward 77 = .ok (.istore 8, 2) := by decide +kernel
theorem dX9_backward_79 : decode cX9_backward 79 = .ok (.aload_n 0, 1) := by decide +kernel
theorem dX9_backward_80 : decode cX9_backward 80 = .ok (.iload_n 3, 1) := by decide +kernel
theorem dX9_backward_81 : decode cX9_backward 81 = .ok (.invokevirtual 234, 3) := by decide +kernel
theorem dX9_backward_84 : decode cX9_backward 84 = .ok (.iconst 1, 1) := by decide +kernel
theorem dX9_backward_85 : decode cX9_backward 85 = .ok (.aload_n 0, 1) := by decide +kernel
theorem dX9_backward_86 : decode cX9_backward 86 = .ok (.getfield 99, 3) := by decide +kernel
theorem dX9_backward_89 : decode cX9_backward 89 = .ok (.ishl, 1) := by decide +kernel
theorem dX9_backward_90 : decode cX9_backward 90 = .ok (.ixor, 1) := by decide +kernel
theorem dX9_backward_91 : decode cX9_backward 91 = .ok (.iconst 1, 1) := by decide +kernel
theorem dX9_backward_92 : decode cX9_backward 92 = .ok (.iload 7, 2) := by decide +kernel
theorem dX9_backward_94 : decode cX9_backward 94 = .ok (.ishl, 1) := by decide +kernel
theorem dX9_backward_95 : decode cX9_backward 95 = .ok (.if_icmp .eq 19, 3) := by decide +kernel
theorem dX9_backward_98 : decode cX9_backward 98 = .ok (.aload_n 0, 1) := by decide +kernel
theorem dX9_backward_99 : decode cX9_backward 99 = .ok (.getfield 72, 3) := by decide +kernel
theorem dX9_backward_102 : decode cX9_backward 102 = .ok (.bipush 9, 2) := by decide +kernel
theorem dX9_backward_104 : decode cX9_backward 104 = .ok (.iload_n 3, 1) := by decide +kernel
theorem dX9_backward_105 : decode cX9_backward 105 = .ok (.imul, 1) := by decide +kernel
theorem dX9_backward_106 : decode cX9_backward 106 = .ok (.iload 7, 2) := by decide +kernel
theorem dX9_backward_108 : decode cX9_backward 108 = .ok (.iadd, 1) := by decide +kernel
theorem dX9_backward_109 : decode cX9_backward 109 = .ok (.iconst (-1), 1) := by decide +kernel
theorem dX9_backward_110 : decode cX9_backward 110 = .ok (.iastore, 1) := by decide +kernel
theorem dX9_backward_111 : decode cX9_backward 111 = .ok (.goto 74, 3) := by decide +kernel
theorem dX9_backward_114 : decode cX9_backward 114 = .ok (.iload 8, 2) := by decide +kernel
theorem dX9_backward_116 : decode cX9_backward 116 = .ok (.ifCond .eq 27, 3) := by decide +kernel
theorem dX9_backward_119 : decode cX9_backward 119 = .ok (.iload 5, 2) := by decide +kernel
theorem dX9_backward_121 : decode cX9_backward 121 = .ok (.iload_n 1, 1) := by decide +kernel
theorem dX9_backward_122 : decode cX9_backward 122 = .ok (.iand, 1) := by decide +kernel
theorem dX9_backward_123 : decode cX9_backward 123 = .ok (.iload_n 1, 1) := by decide +kernel
theorem dX9_backward_124 : decode cX9_backward 124 = .ok (.if_icmp .ne 19, 3) := by decide +kernel
theorem dX9_backward_127 : decode cX9_backward 127 = .ok (.aload_n 0, 1) := by decide +kernel
theorem dX9_backward_128 : decode cX9_backward 128 = .ok (.getfield 72, 3) := by decide +kernel
theorem dX9_backward_131 : decode cX9_backward 131 = .ok (.bipush 9, 2) := by decide +kernel
theorem dX9_backward_133 : decode cX9_backward 133 = .ok (.iload_n 3, 1) := by decide +kernel
theorem dX9_backward_134 : decode cX9_backward 134 = .ok (.imul, 1) := by decide +kernel
theorem dX9_backward_135 : decode cX9_backward 135 = .ok (.iload 7, 2) := by decide +kernel
theorem dX9_backward_137 : decode cX9_backward 137 = .ok (.iadd, 1) := by decide +kernel
theorem dX9_backward_138 : decode cX9_backward 138 = .ok (.iconst 0, 1) := by decide +kernel
theorem dX9_backward_139 : decode cX9_backward 139 = .ok (.iastore, 1) := by decide +kernel
theorem dX9_backward_140 : decode cX9_backward 140 = .ok (.goto 45, 3) := by decide +kernel
theorem dX9_backward_143 : decode cX9_backward 143 = .ok (.aload_n 0, 1) := by decide +kernel
theorem dX9_backward_144 : decode cX9_backward 144 = .ok (.getfield 72, 3) := by decide +kernel
theorem dX9_backward_147 : decode cX9_backward 147 = .ok (.bipush 9, 2) := by decide +kernel
theorem dX9_backward_149 : decode cX9_backward 149 = .ok (.iload_n 3, 1) := by decide +kernel
theorem dX9_backward_150 : decode cX9_backward 150 = .ok (.imul, 1) := by decide +kernel
theorem dX9_backward_151 : decode cX9_backward 151 = .ok (.iload 7, 2) := by decide +kernel
theorem dX9_backward_153 : decode cX9_backward 153 = .ok (.iadd, 1) := by decide +kernel
theorem dX9_backward_154 : decode cX9_backward 154 = .ok (.iload 8, 2) := by decide +kernel
theorem dX9_backward_156 : decode cX9_backward 156 = .ok (.ifCond .eq 15, 3) := by decide +kernel
theorem dX9_backward_159 : decode cX9_backward 159 = .ok (.aload_n 0, 1) := by decide +kernel
theorem dX9_backward_160 : decode cX9_backward 160 = .ok (.getfield 102, 3) := by decide +kernel
theorem dX9_backward_163 : decode cX9_backward 163 = .ok (.iconst 1, 1) := by decide +kernel
theorem dX9_backward_164 : decode cX9_backward 164 = .ok (.if_icmp .ne 7, 3) := by decide +kernel
theorem dX9_backward_167 : decode cX9_backward 167 = .ok (.iconst (-1), 1) := by decide +kernel
theorem dX9_backward_168 : decode cX9_backward 168 = .ok (.goto 16, 3) := by decide +kernel
theorem dX9_backward_171 : decode cX9_backward 171 = .ok (.aload_n 0, 1) := by decide +kernel
theorem dX9_backward_172 : decode cX9_backward 172 = .ok (.iload_n 3, 1) := by decide +kernel
theorem dX9_backward_173 : decode cX9_backward 173 = .ok (.iload 7, 2) := by decide +kernel
theorem dX9_backward_175 : decode cX9_backward 175 = .ok (.iload 4, 2) := by decide +kernel
theorem dX9_backward_177 : decode cX9_backward 177 = .ok (.iload 5, 2) := by decide +kernel
theorem dX9_backward_179 : decode cX9_backward 179 = .ok (.iload 6, 2) := by decide +kernel
theorem dX9_backward_181 : decode cX9_backward 181 = .ok (.invokevirtual 237, 3) := by decide +kernel
theorem dX9_backward_184 : decode cX9_backward 184 = .ok (.iastore, 1) := by decide +kernel
theorem dX9_backward_185 : decode cX9_backward 185 = .ok (.iinc 7 1, 3) := by decide +kernel
theorem dX9_backward_188 : decode cX9_backward 188 = .ok (.goto (-136), 3) := by decide +kernel
theorem dX9_backward_191 : decode cX9_backward 191 = .ok (.iinc 3 (-1), 3) := by decide +kernel
theorem dX9_backward_194 : decode cX9_backward 194 = .ok (.goto (-185), 3) := by decide +kernel
theorem dX9_backward_197 : decode cX9_backward 197 = .ok (.return_, 1) := by decide +kernel
theorem dX9_finds_0 : decode cX9_finds 0 = .ok (.aload_n 0, 1) := by decide +kernel
theorem dX9_finds_1 : decode cX9_finds 1 = .ok (.iconst 0, 1) := by decide +kernel
theorem dX9_finds_2 : decode cX9_finds 2 = .ok (.invokevirtual 241, 3) := by decide +kernel
theorem dX9_finds_5 : decode cX9_finds 5 = .ok (.aload_n 0, 1) := by decide +kernel
theorem dX9_finds_6 : decode cX9_finds 6 = .ok (.iload_n 1, 1) := by decide +kernel
theorem dX9_finds_7 : decode cX9_finds 7 = .ok (.iload_n 2, 1) := by decide +kernel
theorem dX9_finds_8 : decode cX9_finds 8 = .ok (.invokevirtual 245, 3) := by decide +kernel
theorem dX9_finds_11 : decode cX9_finds 11 = .ok (.aload_n 0, 1) := by decide +kernel
theorem dX9_finds_12 : decode cX9_finds 12 = .ok (.iconst 0, 1) := by decide +kernel
theorem dX9_finds_13 : decode cX9_finds 13 = .ok (.putfield 248, 3) := by decide +kernel
theorem dX9_finds_16 : decode cX9_finds 16 = .ok (.aload_n 0, 1) := by decide +kernel
theorem dX9_finds_17 : decode cX9_finds 17 = .ok (.aload_n 0, 1) := by decide +kernel
theorem dX9_finds_18 : decode cX9_finds 18 = .ok (.getfield 72, 3) := by decide +kernel
theorem dX9_finds_21 : decode cX9_finds 21 = .ok (.aload_n 0, 1) := by decide +kernel
theorem dX9_finds_22 : decode cX9_finds 22 = .ok (.getfield 99, 3) := by decide +kernel
theorem dX9_finds_25 : decode cX9_finds 25 = .ok (.iaload, 1) := by decide +kernel
theorem dX9_finds_26 : decode cX9_finds 26 = .ok (.putfield 251, 3) := by decide +kernel
theorem dX9_finds_29 : decode cX9_finds 29 = .ok (.iconst 0, 1) := by decide +kernel
theorem dX9_finds_30 : decode cX9_finds 30 = .ok (.istore_n 3, 1) := by decide +kernel
theorem dX9_finds_31 : decode cX9_finds 31 = .ok (.aload_n 0, 1) := by decide +kernel
theorem dX9_finds_32 : decode cX9_finds 32 = .ok (.getfield 99, 3) := by decide +kernel
theorem dX9_finds_35 : decode cX9_finds 35 = .ok (.istore 4, 2) := by decide +kernel
theorem dX9_finds_37 : decode cX9_finds 37 = .ok (.aload_n 0, 1) := by decide +kernel
theorem dX9_finds_38 : decode cX9_finds 38 = .ok (.getfield 72, 3) := by decide +kernel
theorem dX9_finds_41 : decode cX9_finds 41 = .ok (.bipush 9, 2) := by decide +kernel
theorem dX9_finds_43 : decode cX9_finds 43 = .ok (.iload_n 3, 1) := by decide +kernel
theorem dX9_finds_44 : decode cX9_finds 44 = .ok (.imul, 1) := by decide +kernel
theorem dX9_finds_45 : decode cX9_finds 45 = .ok (.iload 4, 2) := by decide +kernel
theorem dX9_finds_47 : decode cX9_finds 47 = .ok (.iadd, 1) := by decide +kernel
theorem dX9_finds_48 : decode cX9_finds 48 = .ok (.iaload, 1) := by decide +kernel
theorem dX9_finds_49 : decode cX9_finds 49 = .ok (.ifCond .le 244, 3) := by decide +kernel
theorem dX9_finds_52 : decode cX9_finds 52 = .ok (.aload_n 0, 1) := by decide +kernel
theorem dX9_finds_53 : decode cX9_finds 53 = .ok (.iload_n 3, 1) := by decide +kernel
theorem dX9_finds_54 : decode cX9_finds 54 = .ok (.invokevirtual 227, 3) := by decide +kernel
theorem dX9_finds_57 : decode cX9_finds 57 = .ok (.istore 5, 2) := by decide +kernel
theorem dX9_finds_59 : decode cX9_finds 59 = .ok (.iload_n 2, 1) := by decide +kernel
theorem dX9_finds_60 : decode cX9_finds 60 = .ok (.iconst (-1), 1) := by decide +kernel
theorem dX9_finds_61 : decode cX9_finds 61 = .ok (.if_icmp .eq 17, 3) := by decide +kernel
theorem dX9_finds_64 : decode cX9_finds 64 = .ok (.iload 5, 2) := by decide +kernel
theorem dX9_finds_66 : decode cX9_finds 66 = .ok (.iload_n 2, 1) := by decide +kernel
theorem dX9_finds_67 : decode cX9_finds 67 = .ok (.ishr, 1) := by decide +kernel
theorem dX9_finds_68 : decode cX9_finds 68 = .ok (.iconst 1, 1) := by decide +kernel
theorem dX9_finds_69 : decode cX9_finds 69 = .ok (.iand, 1) := by decide +kernel
theorem dX9_finds_70 : decode cX9_finds 70 = .ok (.iconst 1, 1) := by decide +kernel
theorem dX9_finds_71 : decode cX9_finds 71 = .ok (.if_icmp .ne 7, 3) := by decide +kernel
theorem dX9_finds_74 : decode cX9_finds 74 = .ok (.iconst 1, 1) := by decide +kernel
theorem dX9_finds_75 : decode cX9_finds 75 = .ok (.goto 4, 3) := by decide +kernel
theorem dX9_finds_78 : decode cX9_finds 78 = .ok (.iconst 0, 1) := by decide +kernel
theorem dX9_finds_79 : decode cX9_finds 79 = .ok (.istore 6, 2) := by decide +kernel
theorem dX9_finds_81 : decode cX9_finds 81 = .ok (.aload_n 0, 1) := by decide +kernel
theorem dX9_finds_82 : decode cX9_finds 82 = .ok (.iload_n 3, 1) := by decide +kernel
theorem dX9_finds_83 : decode cX9_finds 83 = .ok (.invokevirtual 224, 3) := by decide +kernel
theorem dX9_finds_86 : decode cX9_finds 86 = .ok (.istore 7, 2) := by decide +kernel
theorem dX9_finds_88 : decode cX9_finds 88 = .ok (.iconst (-1), 1) := by decide +kernel
theorem dX9_finds_89 : decode cX9_finds 89 = .ok (.istore 8, 2) := by decide +kernel
theorem dX9_finds_91 : decode cX9_finds 91 = .ok (.aload_n 0, 1) := by decide +kernel
theorem dX9_finds_92 : decode cX9_finds 92 = .ok (.getfield 211, 3) := by decide +kernel
theorem dX9_finds_95 : decode cX9_finds 95 = .ok (.iconst 1, 1) := by decide +kernel
theorem dX9_finds_96 : decode cX9_finds 96 = .ok (.isub, 1) := by decide +kernel
theorem dX9_finds_97 : decode cX9_finds 97 = .ok (.istore 9, 2) := by decide +kernel
theorem dX9_finds_99 : decode cX9_finds 99 = .ok (.iload 9, 2) := by decide +kernel
theorem dX9_finds_101 : decode cX9_finds 101 = .ok (.ifCond .lt 145, 3) := by decide +kernel
theorem dX9_finds_104 : decode cX9_finds 104 = .ok (.iload 7, 2) := by decide +kernel
theorem dX9_finds_106 : decode cX9_finds 106 = .ok (.iload 9, 2) := by decide +kernel
theorem dX9_finds_108 : decode cX9_finds 108 = .ok (.ishr, 1) := by decide +kernel
theorem dX9_finds_109 : decode cX9_finds 109 = .ok (.iconst 1, 1) := by decide +kernel
theorem dX9_finds_110 : decode cX9_finds 110 = .ok (.iand, 1) := by decide +kernel
theorem dX9_finds_111 : decode cX9_finds 111 = .ok (.iconst 1, 1) := by decide +kernel
theorem dX9_finds_112 : decode cX9_finds 112 = .ok (.if_icmp .ne 7, 3) := by decide +kernel
theorem dX9_finds_115 : decode cX9_finds 115 = .ok (.iconst (-1), 1) := by decide +kernel
theorem dX9_finds_116 : decode cX9_finds 116 = .ok (.goto 11, 3) := by decide +kernel
theorem dX9_finds_119 : decode cX9_finds 119 = .ok (.aload_n 0, 1) := by decide +kernel
theorem dX9_finds_120 : decode cX9_finds 120 = .ok (.iload 9, 2) := by decide +kernel
theorem dX9_finds_122 : decode cX9_finds 122 = .ok (.iload 4, 2) := by decide +kernel
theorem dX9_finds_124 : decode cX9_finds 124 = .ok (.invokevirtual 214, 3) := by decide +kernel
theorem dX9_finds_127 : decode cX9_finds 127 = .ok (.istore 10, 2) := by decide +kernel
theorem dX9_finds_129 : decode cX9_finds 129 = .ok (.iload 10, 2) := by decide +kernel
theorem dX9_finds_131 : decode cX9_finds 131 = .ok (.iconst (-1), 1) := by decide +kernel
theorem dX9_finds_132 : decode cX9_finds 132 = .ok (.if_icmp .ne 7, 3) := by decide +kernel
theorem dX9_finds_135 : decode cX9_finds 135 = .ok (.iconst 0, 1) := by decide +kernel
theorem dX9_finds_136 : decode cX9_finds 136 = .ok (.goto 20, 3) := by decide +kernel
theorem dX9_finds_139 : decode cX9_finds 139 = .ok (.aload_n 0, 1) := by decide +kernel
theorem dX9_finds_140 : decode cX9_finds 140 = .ok (.getfield 62, 3) := by decide +kernel
theorem dX9_finds_143 : decode cX9_finds 143 = .ok (.iconst 4, 1) := by decide +kernel
theorem dX9_finds_144 : decode cX9_finds 144 = .ok (.iload 9, 2) := by decide +kernel
theorem dX9_finds_146 : decode cX9_finds 146 = .ok (.imul, 1) := by decide +kernel
theorem dX9_finds_147 : decode cX9_finds 147 = .ok (.iconst 2, 1) := by decide +kernel
theorem dX9_finds_148 : decode cX9_finds 148 = .ok (.iload 6, 2) := by decide +kernel
theorem dX9_finds_150 : decode cX9_finds 150 = .ok (.imul, 1) := by decide +kernel
theorem dX9_finds_151 : decode cX9_finds 151 = .ok (.iadd, 1) := by decide +kernel
theorem dX9_finds_152 : decode cX9_finds 152 = .ok (.iload 10, 2) := by decide +kernel
theorem dX9_finds_154 : decode cX9_finds 154 = .ok (.iadd, 1) := by decide +kernel
theorem dX9_finds_155 : decode cX9_finds 155 = .ok (.iaload, 1) := by decide +kernel
theorem dX9_finds_156 : decode cX9_finds 156 = .ok (.istore 11, 2) := by decide +kernel
theorem dX9_finds_158 : decode cX9_finds 158 = .ok (.iload 11, 2) := by decide +kernel
theorem dX9_finds_160 : decode cX9_finds 160 = .ok (.ifCond .le 80, 3) := by decide +kernel
theorem dX9_finds_163 : decode cX9_finds 163 = .ok (.aload_n 0, 1) := by decide +kernel
theorem dX9_finds_164 : decode cX9_finds 164 = .ok (.aload_n 0, 1) := by decide +kernel
theorem dX9_finds_165 : decode cX9_finds 165 = .ok (.iload 9, 2) := by decide +kernel
theorem dX9_finds_167 : decode cX9_finds 167 = .ok (.iload 10, 2) := by decide +kernel
theorem dX9_finds_169 : decode cX9_finds 169 = .ok (.invokevirtual 217, 3) := by decide +kernel
theorem dX9_finds_172 : decode cX9_finds 172 = .ok (.iload 5, 2) := by decide +kernel
theorem dX9_finds_174 : decode cX9_finds 174 = .ok (.invokevirtual 220, 3) := by decide +kernel
theorem dX9_finds_177 : decode cX9_finds 177 = .ok (.ifCond .eq 63, 3) := by decide +kernel
theorem dX9_finds_180 : decode cX9_finds 180 = .ok (.aload_n 0, 1) := by decide +kernel
theorem dX9_finds_181 : decode cX9_finds 181 = .ok (.getfield 72, 3) := by decide +kernel
theorem dX9_finds_184 : decode cX9_finds 184 = .ok (.bipush 9, 2) := by decide +kernel
theorem dX9_finds_186 : decode cX9_finds 186 = .ok (.iload_n 3, 1) := by decide +kernel
theorem dX9_finds_187 : decode cX9_finds 187 = .ok (.iconst 1, 1) := by decide +kernel
theorem dX9_finds_188 : decode cX9_finds 188 = .ok (.iload 9, 2) := by decide +kernel
theorem dX9_finds_190 : decode cX9_finds 190 = .ok (.ishl, 1) := by decide +kernel
theorem dX9_finds_191 : decode cX9_finds 191 = .ok (.ior, 1) := by decide +kernel
theorem dX9_finds_192 : decode cX9_finds 192 = .ok (.imul, 1) := by decide +kernel
theorem dX9_finds_193 : decode cX9_finds 193 = .ok (.aload_n 0, 1) := by decide +kernel
theorem dX9_finds_194 : decode cX9_finds 194 = .ok (.iload 9, 2) := by decide +kernel
theorem dX9_finds_196 : decode cX9_finds 196 = .ok (.iload 10, 2) := by decide +kernel
theorem dX9_finds_198 : decode cX9_finds 198 = .ok (.invokevirtual 217, 3) := by decide +kernel
theorem dX9_finds_201 : decode cX9_finds 201 = .ok (.iadd, 1) := by decide +kernel
theorem dX9_finds_202 : decode cX9_finds 202 = .ok (.iaload, 1) := by decide +kernel
theorem dX9_finds_203 : decode cX9_finds 203 = .ok (.istore 12, 2) := by decide +kernel
theorem dX9_finds_205 : decode cX9_finds 205 = .ok (.iload 12, 2) := by decide +kernel
theorem dX9_finds_207 : decode cX9_finds 207 = .ok (.iconst (-1), 1) := by decide +kernel
theorem dX9_finds_208 : decode cX9_finds 208 = .ok (.if_icmp .eq 28, 3) := by decide +kernel
theorem dX9_finds_211 : decode cX9_finds 211 = .ok (.iload 12, 2) := by decide +kernel
theorem dX9_finds_213 : decode cX9_finds 213 = .ok (.iload 11, 2) := by decide +kernel
theorem dX9_finds_215 : decode cX9_finds 215 = .ok (.iadd, 1) := by decide +kernel
theorem dX9_finds_216 : decode cX9_finds 216 = .ok (.aload_n 0, 1) := by decide +kernel
theorem dX9_finds_217 : decode cX9_finds 217 = .ok (.getfield 72, 3) := by decide +kernel
theorem dX9_finds_220 : decode cX9_finds 220 = .ok (.bipush 9, 2) := by decide +kernel
theorem dX9_finds_222 : decode cX9_finds 222 = .ok (.iload_n 3, 1) := by decide +kernel
theorem dX9_finds_223 : decode cX9_finds 223 = .ok (.imul, 1) := by decide +kernel
theorem dX9_finds_224 : decode cX9_finds 224 = .ok (.iload 4, 2) := by decide +kernel
theorem dX9_finds_226 : decode cX9_finds 226 = .ok (.iadd, 1) := by decide +kernel
theorem dX9_finds_227 : decode cX9_finds 227 = .ok (.iaload, 1) := by decide +kernel
theorem dX9_finds_228 : decode cX9_finds 228 = .ok (.if_icmp .ne 8, 3) := by decide +kernel
theorem dX9_finds_231 : decode cX9_finds 231 = .ok (.iload 9, 2) := by decide +kernel
theorem dX9_finds_233 : decode cX9_finds 233 = .ok (.goto 5, 3) := by decide +kernel
theorem dX9_finds_236 : decode cX9_finds 236 = .ok (.iload 8, 2) := by decide +kernel
theorem dX9_finds_238 : decode cX9_finds 238 = .ok (.istore 8, 2) := by decide +kernel
theorem dX9_finds_240 : decode cX9_finds 240 = .ok (.iinc 9 (-1), 3) := by decide +kernel
theorem dX9_finds_243 : decode cX9_finds 243 = .ok (.goto (-144), 3) := by decide +kernel
theorem dX9_finds_246 : decode cX9_finds 246 = .ok (.aload_n 0, 1) := by decide +kernel
theorem dX9_finds_247 : decode cX9_finds 247 = .ok (.getfield 75, 3) := by decide +kernel
theorem dX9_finds_250 : decode cX9_finds 250 = .ok (.aload_n 0, 1) := by decide +kernel
theorem dX9_finds_251 : decode cX9_finds 251 = .ok (.getfield 248, 3) := by decide +kernel
theorem dX9_finds_254 : decode cX9_finds 254 = .ok (.iload 8, 2) := by decide +kernel
theorem dX9_finds_256 : decode cX9_finds 256 = .ok (.iastore, 1) := by decide +kernel
theorem dX9_finds_257 : decode cX9_finds 257 = .ok (.aload_n 0, 1) := by decide +kernel
theorem dX9_finds_258 : decode cX9_finds 258 = .ok (.dup, 1) := by decide +kernel
theorem dX9_finds_259 : decode cX9_finds 259 = .ok (.getfield 248, 3) := by decide +kernel
theorem dX9_finds_262 : decode cX9_finds 262 = .ok (.iconst 1, 1) := by decide +kernel
theorem dX9_finds_263 : decode cX9_finds 263 = .ok (.iadd, 1) := by decide +kernel
theorem dX9_finds_264 : decode cX9_finds 264 = .ok (.putfield 248, 3) := by decide +kernel
theorem dX9_finds_267 : decode cX9_finds 267 = .ok (.aload_n 0, 1) := by decide +kernel
theorem dX9_finds_268 : decode cX9_finds 268 = .ok (.iload 8, 2) := by decide +kernel
theorem dX9_finds_270 : decode cX9_finds 270 = .ok (.aload_n 0, 1) := by decide +kernel
theorem dX9_finds_271 : decode cX9_finds 271 = .ok (.iload 8, 2) := by decide +kernel
theorem dX9_finds_273 : decode cX9_finds 273 = .ok (.iload 4, 2) := by decide +kernel
theorem dX9_finds_275 : decode cX9_finds 275 = .ok (.invokevirtual 214, 3) := by decide +kernel
theorem dX9_finds_278 : decode cX9_finds 278 = .ok (.invokevirtual 217, 3) := by decide +kernel
theorem dX9_finds_281 : decode cX9_finds 281 = .ok (.istore 4, 2) := by decide +kernel
theorem dX9_finds_283 : decode cX9_finds 283 = .ok (.iload_n 3, 1) := by decide +kernel
theorem dX9_finds_284 : decode cX9_finds 284 = .ok (.iconst 1, 1) := by decide +kernel
theorem dX9_finds_285 : decode cX9_finds 285 = .ok (.iload 8, 2) := by decide +kernel
theorem dX9_finds_287 : decode cX9_finds 287 = .ok (.ishl, 1) := by decide +kernel
theorem dX9_finds_288 : decode cX9_finds 288 = .ok (.ior, 1) := by decide +kernel
theorem dX9_finds_289 : decode cX9_finds 289 = .ok (.istore_n 3, 1) := by decide +kernel
theorem dX9_finds_290 : decode cX9_finds 290 = .ok (.goto (-253), 3) := by decide +kernel
theorem dX9_finds_293 : decode cX9_finds 293 = .ok (.aload_n 0, 1) := by decide +kernel
theorem dX9_finds_294 : decode cX9_finds 294 = .ok (.getfield 251, 3) := by decide +kernel
theorem dX9_finds_297 : decode cX9_finds 297 = .ok (.iconst (-1), 1) := by decide +kernel
theorem dX9_finds_298 : decode cX9_finds 298 = .ok (.if_icmp .eq 7, 3) := by decide +kernel
theorem dX9_finds_301 : decode cX9_finds 301 = .ok (.iconst 1, 1) := by decide +kernel
theorem dX9_finds_302 : decode cX9_finds 302 = .ok (.goto 4, 3) := by decide +kernel
theorem dX9_finds_305 : decode cX9_finds 305 = .ok (.iconst 0, 1) := by decide +kernel
theorem dX9_finds_306 : decode cX9_finds 306 = .ok (.ireturn, 1) := by decide +kernel
theorem dX9_told4_0 : decode cX9_told4 0 = .ok (.iload_n 1, 1) := by decide +kernel
theorem dX9_told4_1 : decode cX9_told4 1 = .ok (.ifCond .ne 5, 3) := by decide +kernel
theorem dX9_told4_4 : decode cX9_told4 4 = .ok (.iconst (-1), 1) := by decide +kernel
theorem dX9_told4_5 : decode cX9_told4 5 = .ok (.ireturn, 1) := by decide +kernel
theorem dX9_told4_6 : decode cX9_told4 6 = .ok (.iconst 0, 1) := by decide +kernel
theorem dX9_told4_7 : decode cX9_told4 7 = .ok (.istore_n 3, 1) := by decide +kernel
theorem dX9_told4_8 : decode cX9_told4 8 = .ok (.iconst 0, 1) := by decide +kernel
theorem dX9_told4_9 : decode cX9_told4 9 = .ok (.istore 4, 2) := by decide +kernel
theorem dX9_told4_11 : decode cX9_told4 11 = .ok (.iload 4, 2) := by decide +kernel
theorem dX9_told4_13 : decode cX9_told4 13 = .ok (.aload_n 0, 1) := by decide +kernel
theorem dX9_told4_14 : decode cX9_told4 14 = .ok (.getfield 248, 3) := by decide +kernel
theorem dX9_told4_17 : decode cX9_told4 17 = .ok (.if_icmp .ge 21, 3) := by decide +kernel
theorem dX9_told4_20 : decode cX9_told4 20 = .ok (.iload_n 3, 1) := by decide +kernel
theorem dX9_told4_21 : decode cX9_told4 21 = .ok (.iconst 1, 1) := by decide +kernel
theorem dX9_told4_22 : decode cX9_told4 22 = .ok (.aload_n 0, 1) := by decide +kernel
theorem dX9_told4_23 : decode cX9_told4 23 = .ok (.getfield 75, 3) := by decide +kernel
theorem dX9_told4_26 : decode cX9_told4 26 = .ok (.iload 4, 2) := by decide +kernel
theorem dX9_told4_28 : decode cX9_told4 28 = .ok (.iaload, 1) := by decide +kernel
theorem dX9_told4_29 : decode cX9_told4 29 = .ok (.ishl, 1) := by decide +kernel
theorem dX9_told4_30 : decode cX9_told4 30 = .ok (.ior, 1) := by decide +kernel
theorem dX9_told4_31 : decode cX9_told4 31 = .ok (.istore_n 3, 1) := by decide +kernel
theorem dX9_told4_32 : decode cX9_told4 32 = .ok (.iinc 4 1, 3) := by decide +kernel
theorem dX9_told4_35 : decode cX9_told4 35 = .ok (.goto (-24), 3) := by decide +kernel
theorem dX9_told4_38 : decode cX9_told4 38 = .ok (.iload_n 2, 1) := by decide +kernel
theorem dX9_told4_39 : decode cX9_told4 39 = .ok (.ifCond .ne 10, 3) := by decide +kernel
theorem dX9_told4_42 : decode cX9_told4 42 = .ok (.aload_n 0, 1) := by decide +kernel
theorem dX9_told4_43 : decode cX9_told4 43 = .ok (.getfield 251, 3) := by decide +kernel
theorem dX9_told4_46 : decode cX9_told4 46 = .ok (.goto 30, 3) := by decide +kernel
theorem dX9_told4_49 : decode cX9_told4 49 = .ok (.iload_n 2, 1) := by decide +kernel
theorem dX9_told4_50 : decode cX9_told4 50 = .ok (.iconst 1, 1) := by decide +kernel
theorem dX9_told4_51 : decode cX9_told4 51 = .ok (.if_icmp .ne 7, 3) := by decide +kernel
theorem dX9_told4_54 : decode cX9_told4 54 = .ok (.iload_n 3, 1) := by decide +kernel
theorem dX9_told4_55 : decode cX9_told4 55 = .ok (.goto 21, 3) := by decide +kernel
theorem dX9_told4_58 : decode cX9_told4 58 = .ok (.iload_n 2, 1) := by decide +kernel
theorem dX9_told4_59 : decode cX9_told4 59 = .ok (.iconst 2, 1) := by decide +kernel
theorem dX9_told4_60 : decode cX9_told4 60 = .ok (.if_icmp .ne 12, 3) := by decide +kernel
theorem dX9_told4_63 : decode cX9_told4 63 = .ok (.aload_n 0, 1) := by decide +kernel
theorem dX9_told4_64 : decode cX9_told4 64 = .ok (.getfield 75, 3) := by decide +kernel
theorem dX9_told4_67 : decode cX9_told4 67 = .ok (.iconst 0, 1) := by decide +kernel
theorem dX9_told4_68 : decode cX9_told4 68 = .ok (.iaload, 1) := by decide +kernel
theorem dX9_told4_69 : decode cX9_told4 69 = .ok (.goto 7, 3) := by decide +kernel
theorem dX9_told4_72 : decode cX9_told4 72 = .ok (.aload_n 0, 1) := by decide +kernel
theorem dX9_told4_73 : decode cX9_told4 73 = .ok (.getfield 248, 3) := by decide +kernel
theorem dX9_told4_76 : decode cX9_told4 76 = .ok (.ireturn, 1) := by decide +kernel
theorem dX9_isOther_0 : decode cX9_isOther 0 = .ok (.iload_n 1, 1) := by decide +kernel
theorem dX9_isOther_1 : decode cX9_isOther 1 = .ok (.invokestatic 254, 3) := by decide +kernel
theorem dX9_isOther_4 : decode cX9_isOther 4 = .ok (.ifCond .eq 15, 3) := by decide +kernel
theorem dX9_isOther_7 : decode cX9_isOther 7 = .ok (.iload_n 1, 1) := by decide +kernel
theorem dX9_isOther_8 : decode cX9_isOther 8 = .ok (.aload_n 0, 1) := by decide +kernel
theorem dX9_isOther_9 : decode cX9_isOther 9 = .ok (.getfield 99, 3) := by decide +kernel
theorem dX9_isOther_12 : decode cX9_isOther 12 = .ok (.if_icmp .eq 7, 3) := by decide +kernel
theorem dX9_isOther_15 : decode cX9_isOther 15 = .ok (.iconst 1, 1) := by decide +kernel
theorem dX9_isOther_16 : decode cX9_isOther 16 = .ok (.goto 4, 3) := by decide +kernel
theorem dX9_isOther_19 : decode cX9_isOther 19 = .ok (.iconst 0, 1) := by decide +kernel
theorem dX9_isOther_20 : decode cX9_isOther 20 = .ok (.ireturn, 1) := by decide +kernel
theorem dX9_ring_0 : decode cX9_ring 0 = .ok (.aload_n 0, 1) := by decide +kernel
theorem dX9_ring_1 : decode cX9_ring 1 = .ok (.iload_n 1, 1) := by decide +kernel
theorem dX9_ring_2 : decode cX9_ring 2 = .ok (.invokevirtual 257, 3) := by decide +kernel
theorem dX9_ring_5 : decode cX9_ring 5 = .ok (.ifCond .ne 6, 3) := by decide +kernel
theorem dX9_ring_8 : decode cX9_ring 8 = .ok (.bipush (-5), 2) := by decide +kernel
theorem dX9_ring_10 : decode cX9_ring 10 = .ok (.ireturn, 1) := by decide +kernel
theorem dX9_ring_11 : decode cX9_ring 11 = .ok (.iload_n 2, 1) := by decide +kernel
theorem dX9_ring_12 : decode cX9_ring 12 = .ok (.iconst 0, 1) := by decide +kernel
theorem dX9_ring_13 : decode cX9_ring 13 = .ok (.iconst 3, 1) := by decide +kernel
theorem dX9_ring_14 : decode cX9_ring 14 = .ok (.invokestatic 88, 3) := by decide +kernel
theorem dX9_ring_17 : decode cX9_ring 17 = .ok (.ifCond .eq 19, 3) := by decide +kernel
theorem dX9_ring_20 : decode cX9_ring 20 = .ok (.aload_n 0, 1) := by decide +kernel
theorem dX9_ring_21 : decode cX9_ring 21 = .ok (.aload_n 0, 1) := by decide +kernel
theorem dX9_ring_22 : decode cX9_ring 22 = .ok (.iconst 1, 1) := by decide +kernel
theorem dX9_ring_23 : decode cX9_ring 23 = .ok (.iload_n 1, 1) := by decide +kernel
theorem dX9_ring_24 : decode cX9_ring 24 = .ok (.ishl, 1) := by decide +kernel
theorem dX9_ring_25 : decode cX9_ring 25 = .ok (.iconst (-1), 1) := by decide +kernel
theorem dX9_ring_26 : decode cX9_ring 26 = .ok (.invokevirtual 260, 3) := by decide +kernel
theorem dX9_ring_29 : decode cX9_ring 29 = .ok (.iload_n 2, 1) := by decide +kernel
theorem dX9_ring_30 : decode cX9_ring 30 = .ok (.invokevirtual 263, 3) := by decide +kernel
theorem dX9_ring_33 : decode cX9_ring 33 = .ok (.goto 5, 3) := by decide +kernel
theorem dX9_ring_36 : decode cX9_ring 36 = .ok (.bipush (-7), 2) := by decide +kernel
theorem dX9_ring_38 : decode cX9_ring 38 = .ok (.ireturn, 1) := by decide +kernel
theorem dX9_heavy_0 : decode cX9_heavy 0 = .ok (.aload_n 0, 1) := by decide +kernel
theorem dX9_heavy_1 : decode cX9_heavy 1 = .ok (.iload_n 1, 1) := by decide +kernel
theorem dX9_heavy_2 : decode cX9_heavy 2 = .ok (.invokevirtual 257, 3) := by decide +kernel
theorem dX9_heavy_5 : decode cX9_heavy 5 = .ok (.ifCond .ne 6, 3) := by decide +kernel
theorem dX9_heavy_8 : decode cX9_heavy 8 = .ok (.bipush (-5), 2) := by decide +kernel
theorem dX9_heavy_10 : decode cX9_heavy 10 = .ok (.ireturn, 1) := by decide +kernel
theorem dX9_heavy_11 : decode cX9_heavy 11 = .ok (.iload_n 2, 1) := by decide +kernel
theorem dX9_heavy_12 : decode cX9_heavy 12 = .ok (.iconst 0, 1) := by decide +kernel
theorem dX9_heavy_13 : decode cX9_heavy 13 = .ok (.iconst 3, 1) := by decide +kernel
theorem dX9_heavy_14 : decode cX9_heavy 14 = .ok (.invokestatic 88, 3) := by decide +kernel
theorem dX9_heavy_17 : decode cX9_heavy 17 = .ok (.ifCond .eq 19, 3) := by decide +kernel
theorem dX9_heavy_20 : decode cX9_heavy 20 = .ok (.aload_n 0, 1) := by decide +kernel
theorem dX9_heavy_21 : decode cX9_heavy 21 = .ok (.aload_n 0, 1) := by decide +kernel
theorem dX9_heavy_22 : decode cX9_heavy 22 = .ok (.iconst 1, 1) := by decide +kernel
theorem dX9_heavy_23 : decode cX9_heavy 23 = .ok (.iload_n 1, 1) := by decide +kernel
theorem dX9_heavy_24 : decode cX9_heavy 24 = .ok (.ishl, 1) := by decide +kernel
theorem dX9_heavy_25 : decode cX9_heavy 25 = .ok (.iload_n 1, 1) := by decide +kernel
theorem dX9_heavy_26 : decode cX9_heavy 26 = .ok (.invokevirtual 260, 3) := by decide +kernel
theorem dX9_heavy_29 : decode cX9_heavy 29 = .ok (.iload_n 2, 1) := by decide +kernel
theorem dX9_heavy_30 : decode cX9_heavy 30 = .ok (.invokevirtual 263, 3) := by decide +kernel
theorem dX9_heavy_33 : decode cX9_heavy 33 = .ok (.goto 5, 3) := by decide +kernel
theorem dX9_heavy_36 : decode cX9_heavy 36 = .ok (.bipush (-7), 2) := by decide +kernel
theorem dX9_heavy_38 : decode cX9_heavy 38 = .ok (.ireturn, 1) := by decide +kernel
theorem dX9_gap_0 : decode cX9_gap 0 = .ok (.aload_n 0, 1) := by decide +kernel
theorem dX9_gap_1 : decode cX9_gap 1 = .ok (.iload_n 1, 1) := by decide +kernel
theorem dX9_gap_2 : decode cX9_gap 2 = .ok (.invokevirtual 257, 3) := by decide +kernel
theorem dX9_gap_5 : decode cX9_gap 5 = .ok (.ifCond .ne 6, 3) := by decide +kernel
theorem dX9_gap_8 : decode cX9_gap 8 = .ok (.bipush (-5), 2) := by decide +kernel
theorem dX9_gap_10 : decode cX9_gap 10 = .ok (.ireturn, 1) := by decide +kernel
theorem dX9_gap_11 : decode cX9_gap 11 = .ok (.aload_n 0, 1) := by decide +kernel
theorem dX9_gap_12 : decode cX9_gap 12 = .ok (.iconst 1, 1) := by decide +kernel
theorem dX9_gap_13 : decode cX9_gap 13 = .ok (.iload_n 1, 1) := by decide +kernel
theorem dX9_gap_14 : decode cX9_gap 14 = .ok (.ishl, 1) := by decide +kernel
theorem dX9_gap_15 : decode cX9_gap 15 = .ok (.iconst (-1), 1) := by decide +kernel
theorem dX9_gap_16 : decode cX9_gap 16 = .ok (.invokevirtual 260, 3) := by decide +kernel
theorem dX9_gap_19 : decode cX9_gap 19 = .ok (.ifCond .eq 10, 3) := by decide +kernel
theorem dX9_gap_22 : decode cX9_gap 22 = .ok (.aload_n 0, 1) := by decide +kernel
theorem dX9_gap_23 : decode cX9_gap 23 = .ok (.getfield 251, 3) := by decide +kernel
theorem dX9_gap_26 : decode cX9_gap 26 = .ok (.goto 4, 3) := by decide +kernel
theorem dX9_gap_29 : decode cX9_gap 29 = .ok (.iconst (-1), 1) := by decide +kernel
theorem dX9_gap_30 : decode cX9_gap 30 = .ok (.istore_n 2, 1) := by decide +kernel
theorem dX9_gap_31 : decode cX9_gap 31 = .ok (.aload_n 0, 1) := by decide +kernel
theorem dX9_gap_32 : decode cX9_gap 32 = .ok (.iconst 1, 1) := by decide +kernel
theorem dX9_gap_33 : decode cX9_gap 33 = .ok (.iload_n 1, 1) := by decide +kernel
theorem dX9_gap_34 : decode cX9_gap 34 = .ok (.ishl, 1) := by decide +kernel
theorem dX9_gap_35 : decode cX9_gap 35 = .ok (.iload_n 1, 1) := by decide +kernel
theorem dX9_gap_36 : decode cX9_gap 36 = .ok (.invokevirtual 260, 3) := by decide +kernel
theorem dX9_gap_39 : decode cX9_gap 39 = .ok (.ifCond .eq 10, 3) := by decide +kernel
theorem dX9_gap_42 : decode cX9_gap 42 = .ok (.aload_n 0, 1) := by decide +kernel
theorem dX9_gap_43 : decode cX9_gap 43 = .ok (.getfield 251, 3) := by decide +kernel
theorem dX9_gap_46 : decode cX9_gap 46 = .ok (.goto 4, 3) := by decide +kernel
theorem dX9_gap_49 : decode cX9_gap 49 = .ok (.iconst (-1), 1) := by decide +kernel
theorem dX9_gap_50 : decode cX9_gap 50 = .ok (.istore_n 3, 1) := by decide +kernel
theorem dX9_gap_51 : decode cX9_gap 51 = .ok (.iload_n 2, 1) := by decide +kernel
theorem dX9_gap_52 : decode cX9_gap 52 = .ok (.iconst (-1), 1) := by decide +kernel
theorem dX9_gap_53 : decode cX9_gap 53 = .ok (.if_icmp .eq 8, 3) := by decide +kernel
theorem dX9_gap_56 : decode cX9_gap 56 = .ok (.iload_n 3, 1) := by decide +kernel
theorem dX9_gap_57 : decode cX9_gap 57 = .ok (.iconst (-1), 1) := by decide +kernel
theorem dX9_gap_58 : decode cX9_gap 58 = .ok (.if_icmp .ne 7, 3) := by decide +kernel
theorem dX9_gap_61 : decode cX9_gap 61 = .ok (.iconst (-1), 1) := by decide +kernel
theorem dX9_gap_62 : decode cX9_gap 62 = .ok (.goto 6, 3) := by decide +kernel
theorem dX9_gap_65 : decode cX9_gap 65 = .ok (.iload_n 3, 1) := by decide +kernel
theorem dX9_gap_66 : decode cX9_gap 66 = .ok (.iload_n 2, 1) := by decide +kernel
theorem dX9_gap_67 : decode cX9_gap 67 = .ok (.isub, 1) := by decide +kernel
theorem dX9_gap_68 : decode cX9_gap 68 = .ok (.ireturn, 1) := by decide +kernel
theorem dX9_calls_0 : decode cX9_calls 0 = .ok (.iload_n 1, 1) := by decide +kernel
theorem dX9_calls_1 : decode cX9_calls 1 = .ok (.iconst 0, 1) := by decide +kernel
theorem dX9_calls_2 : decode cX9_calls 2 = .ok (.sipush 511, 3) := by decide +kernel
theorem dX9_calls_5 : decode cX9_calls 5 = .ok (.invokestatic 88, 3) := by decide +kernel
theorem dX9_calls_8 : decode cX9_calls 8 = .ok (.ifCond .ne 6, 3) := by decide +kernel
theorem dX9_calls_11 : decode cX9_calls 11 = .ok (.bipush (-2), 2) := by decide +kernel
theorem dX9_calls_13 : decode cX9_calls 13 = .ok (.ireturn, 1) := by decide +kernel
theorem dX9_calls_14 : decode cX9_calls 14 = .ok (.iload_n 2, 1) := by decide +kernel
theorem dX9_calls_15 : decode cX9_calls 15 = .ok (.iconst (-1), 1) := by decide +kernel
theorem dX9_calls_16 : decode cX9_calls 16 = .ok (.if_icmp .eq 22, 3) := by decide +kernel
theorem dX9_calls_19 : decode cX9_calls 19 = .ok (.aload_n 0, 1) := by decide +kernel
theorem dX9_calls_20 : decode cX9_calls 20 = .ok (.iload_n 2, 1) := by decide +kernel
theorem dX9_calls_21 : decode cX9_calls 21 = .ok (.invokevirtual 257, 3) := by decide +kernel
theorem dX9_calls_24 : decode cX9_calls 24 = .ok (.ifCond .eq 11, 3) := by decide +kernel
theorem dX9_calls_27 : decode cX9_calls 27 = .ok (.iload_n 1, 1) := by decide +kernel
theorem dX9_calls_28 : decode cX9_calls 28 = .ok (.iload_n 2, 1) := by decide +kernel
theorem dX9_calls_29 : decode cX9_calls 29 = .ok (.ishr, 1) := by decide +kernel
theorem dX9_calls_30 : decode cX9_calls 30 = .ok (.iconst 1, 1) := by decide +kernel
theorem dX9_calls_31 : decode cX9_calls 31 = .ok (.iand, 1) := by decide +kernel
theorem dX9_calls_32 : decode cX9_calls 32 = .ok (.ifCond .ne 6, 3) := by decide +kernel
theorem dX9_calls_35 : decode cX9_calls 35 = .ok (.bipush (-5), 2) := by decide +kernel
theorem dX9_calls_37 : decode cX9_calls 37 = .ok (.ireturn, 1) := by decide +kernel
theorem dX9_calls_38 : decode cX9_calls 38 = .ok (.iload_n 3, 1) := by decide +kernel
theorem dX9_calls_39 : decode cX9_calls 39 = .ok (.iconst 0, 1) := by decide +kernel
theorem dX9_calls_40 : decode cX9_calls 40 = .ok (.iconst 3, 1) := by decide +kernel
theorem dX9_calls_41 : decode cX9_calls 41 = .ok (.invokestatic 88, 3) := by decide +kernel
theorem dX9_calls_44 : decode cX9_calls 44 = .ok (.ifCond .eq 26, 3) := by decide +kernel
theorem dX9_calls_47 : decode cX9_calls 47 = .ok (.aload_n 0, 1) := by decide +kernel
theorem dX9_calls_48 : decode cX9_calls 48 = .ok (.aload_n 0, 1) := by decide +kernel
theorem dX9_calls_49 : decode cX9_calls 49 = .ok (.iload_n 1, 1) := by decide +kernel
theorem dX9_calls_50 : decode cX9_calls 50 = .ok (.iconst 1, 1) := by decide +kernel
theorem dX9_calls_51 : decode cX9_calls 51 = .ok (.aload_n 0, 1) := by decide +kernel
theorem dX9_calls_52 : decode cX9_calls 52 = .ok (.getfield 99, 3) := by decide +kernel
theorem dX9_calls_55 : decode cX9_calls 55 = .ok (.ishl, 1) := by decide +kernel
theorem dX9_calls_56 : decode cX9_calls 56 = .ok (.iconst (-1), 1) := by decide +kernel
theorem dX9_calls_57 : decode cX9_calls 57 = .ok (.ixor, 1) := by decide +kernel
theorem dX9_calls_58 : decode cX9_calls 58 = .ok (.iand, 1) := by decide +kernel
theorem dX9_calls_59 : decode cX9_calls 59 = .ok (.iload_n 2, 1) := by decide +kernel
theorem dX9_calls_60 : decode cX9_calls 60 = .ok (.invokevirtual 260, 3) := by decide +kernel
theorem dX9_calls_63 : decode cX9_calls 63 = .ok (.iload_n 3, 1) := by decide +kernel
theorem dX9_calls_64 : decode cX9_calls 64 = .ok (.invokevirtual 263, 3) := by decide +kernel
theorem dX9_calls_67 : decode cX9_calls 67 = .ok (.goto 5, 3) := by decide +kernel
theorem dX9_calls_70 : decode cX9_calls 70 = .ok (.bipush (-7), 2) := by decide +kernel
theorem dX9_calls_72 : decode cX9_calls 72 = .ok (.ireturn, 1) := by decide +kernel
theorem dX9_ringsWithin_0 : decode cX9_ringsWithin 0 = .ok (.iconst 0, 1) := by decide +kernel
theorem dX9_ringsWithin_1 : decode cX9_ringsWithin 1 = .ok (.istore_n 2, 1) := by decide +kernel
theorem dX9_ringsWithin_2 : decode cX9_ringsWithin 2 = .ok (.iload_n 2, 1) := by decide +kernel
theorem dX9_ringsWithin_3 : decode cX9_ringsWithin 3 = .ok (.iconst 1, 1) := by decide +kernel
theorem dX9_ringsWithin_4 : decode cX9_ringsWithin 4 = .ok (.aload_n 0, 1) := by decide +kernel
theorem dX9_ringsWithin_5 : decode cX9_ringsWithin 5 = .ok (.getfield 211, 3) := by decide +kernel
theorem dX9_ringsWithin_8 : decode cX9_ringsWithin 8 = .ok (.ishl, 1) := by decide +kernel
theorem dX9_ringsWithin_9 : decode cX9_ringsWithin 9 = .ok (.if_icmp .ge 150, 3) := by decide +kernel
theorem dX9_ringsWithin_12 : decode cX9_ringsWithin 12 = .ok (.iload_n 2, 1) := by decide +kernel
theorem dX9_ringsWithin_13 : decode cX9_ringsWithin 13 = .ok (.ifCond .ne 7, 3) := by decide +kernel
theorem dX9_ringsWithin_16 : decode cX9_ringsWithin 16 = .ok (.iconst (-1), 1) := by decide +kernel
theorem dX9_ringsWithin_17 : decode cX9_ringsWithin 17 = .ok (.goto 17, 3) := by decide +kernel
theorem dX9_ringsWithin_20 : decode cX9_ringsWithin 20 = .ok (.aload_n 0, 1) := by decide +kernel
theorem dX9_ringsWithin_21 : decode cX9_ringsWithin 21 = .ok (.getfield 69, 3) := by decide +kernel
theorem dX9_ringsWithin_24 : decode cX9_ringsWithin 24 = .ok (.bipush 9, 2) := by decide +kernel
theorem dX9_ringsWithin_26 : decode cX9_ringsWithin 26 = .ok (.iload_n 2, 1) := by decide +kernel
theorem dX9_ringsWithin_27 : decode cX9_ringsWithin 27 = .ok (.imul, 1) := by decide +kernel
theorem dX9_ringsWithin_28 : decode cX9_ringsWithin 28 = .ok (.aload_n 0, 1) := by decide +kernel
theorem dX9_ringsWithin_29 : decode cX9_ringsWithin 29 = .ok (.getfield 99, 3) := by decide +kernel
theorem dX9_ringsWithin_32 : decode cX9_ringsWithin 32 = .ok (.iadd, 1) := by decide +kernel
theorem dX9_ringsWithin_33 : decode cX9_ringsWithin 33 = .ok (.iaload, 1) := by decide +kernel
theorem dX9_ringsWithin_34 : decode cX9_ringsWithin 34 = .ok (.istore_n 3, 1) := by decide +kernel
theorem dX9_ringsWithin_35 : decode cX9_ringsWithin 35 = .ok (.aload_n 0, 1) := by decide +kernel
theorem dX9_ringsWithin_36 : decode cX9_ringsWithin 36 = .ok (.getfield 78, 3) := by decide +kernel
theorem dX9_ringsWithin_39 : decode cX9_ringsWithin 39 = .ok (.iload_n 2, 1) := by decide +kernel
theorem dX9_ringsWithin_40 : decode cX9_ringsWithin 40 = .ok (.iload_n 3, 1) := by decide +kernel
theorem dX9_ringsWithin_41 : decode cX9_ringsWithin 41 = .ok (.iconst (-1), 1) := by decide +kernel
theorem dX9_ringsWithin_42 : decode cX9_ringsWithin 42 = .ok (.if_icmp .eq 18, 3) := by decide +kernel
theorem dX9_ringsWithin_45 : decode cX9_ringsWithin 45 = .ok (.aload_n 0, 1) := by decide +kernel
theorem dX9_ringsWithin_46 : decode cX9_ringsWithin 46 = .ok (.iload_n 2, 1) := by decide +kernel
theorem dX9_ringsWithin_47 : decode cX9_ringsWithin 47 = .ok (.invokevirtual 227, 3) := by decide +kernel
theorem dX9_ringsWithin_50 : decode cX9_ringsWithin 50 = .ok (.iload_n 1, 1) := by decide +kernel
theorem dX9_ringsWithin_51 : decode cX9_ringsWithin 51 = .ok (.iand, 1) := by decide +kernel
theorem dX9_ringsWithin_52 : decode cX9_ringsWithin 52 = .ok (.iload_n 1, 1) := by decide +kernel
theorem dX9_ringsWithin_53 : decode cX9_ringsWithin 53 = .ok (.if_icmp .ne 7, 3) := by decide +kernel
theorem dX9_ringsWithin_56 : decode cX9_ringsWithin 56 = .ok (.iload_n 3, 1) := by decide +kernel
theorem dX9_ringsWithin_57 : decode cX9_ringsWithin 57 = .ok (.goto 4, 3) := by decide +kernel
theorem dX9_ringsWithin_60 : decode cX9_ringsWithin 60 = .ok (.iconst (-1), 1) := by decide +kernel
theorem dX9_ringsWithin_61 : decode cX9_ringsWithin 61 = .ok (.iastore, 1) := by decide +kernel
theorem dX9_ringsWithin_62 : decode cX9_ringsWithin 62 = .ok (.iconst 0, 1) := by decide +kernel
theorem dX9_ringsWithin_63 : decode cX9_ringsWithin 63 = .ok (.istore 4, 2) := by decide +kernel
theorem dX9_ringsWithin_65 : decode cX9_ringsWithin 65 = .ok (.iload 4, 2) := by decide +kernel
theorem dX9_ringsWithin_67 : decode cX9_ringsWithin 67 = .ok (.aload_n 0, 1) := by decide +kernel
theorem dX9_ringsWithin_68 : decode cX9_ringsWithin 68 = .ok (.getfield 211, 3) := by decide +kernel
theorem dX9_ringsWithin_71 : decode cX9_ringsWithin 71 = .ok (.if_icmp .ge 82, 3) := by decide +kernel
theorem dX9_ringsWithin_74 : decode cX9_ringsWithin 74 = .ok (.iload_n 2, 1) := by decide +kernel
theorem dX9_ringsWithin_75 : decode cX9_ringsWithin 75 = .ok (.iload 4, 2) := by decide +kernel
theorem dX9_ringsWithin_77 : decode cX9_ringsWithin 77 = .ok (.ishr, 1) := by decide +kernel
theorem dX9_ringsWithin_78 : decode cX9_ringsWithin 78 = .ok (.iconst 1, 1) := by decide +kernel
theorem dX9_ringsWithin_79 : decode cX9_ringsWithin 79 = .ok (.iand, 1) := by decide +kernel
theorem dX9_ringsWithin_80 : decode cX9_ringsWithin 80 = .ok (.iconst 1, 1) := by decide +kernel
theorem dX9_ringsWithin_81 : decode cX9_ringsWithin 81 = .ok (.if_icmp .ne 19, 3) := by decide +kernel
theorem dX9_ringsWithin_84 : decode cX9_ringsWithin 84 = .ok (.aload_n 0, 1) := by decide +kernel
theorem dX9_ringsWithin_85 : decode cX9_ringsWithin 85 = .ok (.getfield 78, 3) := by decide +kernel
theorem dX9_ringsWithin_88 : decode cX9_ringsWithin 88 = .ok (.iload_n 2, 1) := by decide +kernel
theorem dX9_ringsWithin_89 : decode cX9_ringsWithin 89 = .ok (.iconst 1, 1) := by decide +kernel
theorem dX9_ringsWithin_90 : decode cX9_ringsWithin 90 = .ok (.iload 4, 2) := by decide +kernel
theorem dX9_ringsWithin_92 : decode cX9_ringsWithin 92 = .ok (.ishl, 1) := by decide +kernel
theorem dX9_ringsWithin_93 : decode cX9_ringsWithin 93 = .ok (.iconst (-1), 1) := by decide +kernel
theorem dX9_ringsWithin_94 : decode cX9_ringsWithin 94 = .ok (.ixor, 1) := by decide +kernel
theorem dX9_ringsWithin_95 : decode cX9_ringsWithin 95 = .ok (.iand, 1) := by decide +kernel
theorem dX9_ringsWithin_96 : decode cX9_ringsWithin 96 = .ok (.iaload, 1) := by decide +kernel
theorem dX9_ringsWithin_97 : decode cX9_ringsWithin 97 = .ok (.goto 4, 3) := by decide +kernel
theorem dX9_ringsWithin_100 : decode cX9_ringsWithin 100 = .ok (.iconst (-1), 1) := by decide +kernel
theorem dX9_ringsWithin_101 : decode cX9_ringsWithin 101 = .ok (.istore 5, 2) := by decide +kernel
theorem dX9_ringsWithin_103 : decode cX9_ringsWithin 103 = .ok (.aload_n 0, 1) := by decide +kernel
theorem dX9_ringsWithin_104 : decode cX9_ringsWithin 104 = .ok (.getfield 78, 3) := by decide +kernel
theorem dX9_ringsWithin_107 : decode cX9_ringsWithin 107 = .ok (.iload_n 2, 1) := by decide +kernel
theorem dX9_ringsWithin_108 : decode cX9_ringsWithin 108 = .ok (.iload 5, 2) := by decide +kernel
theorem dX9_ringsWithin_110 : decode cX9_ringsWithin 110 = .ok (.iconst (-1), 1) := by decide +kernel
theorem dX9_ringsWithin_111 : decode cX9_ringsWithin 111 = .ok (.if_icmp .eq 29, 3) := by decide +kernel
theorem dX9_ringsWithin_114 : decode cX9_ringsWithin 114 = .ok (.aload_n 0, 1) := by decide +kernel
theorem dX9_ringsWithin_115 : decode cX9_ringsWithin 115 = .ok (.getfield 78, 3) := by decide +kernel
theorem dX9_ringsWithin_118 : decode cX9_ringsWithin 118 = .ok (.iload_n 2, 1) := by decide +kernel
theorem dX9_ringsWithin_119 : decode cX9_ringsWithin 119 = .ok (.iaload, 1) := by decide +kernel
theorem dX9_ringsWithin_120 : decode cX9_ringsWithin 120 = .ok (.iconst (-1), 1) := by decide +kernel
theorem dX9_ringsWithin_121 : decode cX9_ringsWithin 121 = .ok (.if_icmp .eq 14, 3) := by decide +kernel
theorem dX9_ringsWithin_124 : decode cX9_ringsWithin 124 = .ok (.iload 5, 2) := by decide +kernel
theorem dX9_ringsWithin_126 : decode cX9_ringsWithin 126 = .ok (.aload_n 0, 1) := by decide +kernel
theorem dX9_ringsWithin_127 : decode cX9_ringsWithin 127 = .ok (.getfield 78, 3) := by decide +kernel
theorem dX9_ringsWithin_130 : decode cX9_ringsWithin 130 = .ok (.iload_n 2, 1) := by decide +kernel
theorem dX9_ringsWithin_131 : decode cX9_ringsWithin 131 = .ok (.iaload, 1) := by decide +kernel
theorem dX9_ringsWithin_132 : decode cX9_ringsWithin 132 = .ok (.if_icmp .ge 8, 3) := by decide +kernel
theorem dX9_ringsWithin_135 : decode cX9_ringsWithin 135 = .ok (.iload 5, 2) := by decide +kernel
theorem dX9_ringsWithin_137 : decode cX9_ringsWithin 137 = .ok (.goto 9, 3) := by decide +kernel
theorem dX9_ringsWithin_140 : decode cX9_ringsWithin 140 = .ok (.aload_n 0, 1) := by decide +kernel
theorem dX9_ringsWithin_141 : decode cX9_ringsWithin 141 = .ok (.getfield 78, 3) := by decide +kernel
theorem dX9_ringsWithin_144 : decode cX9_ringsWithin 144 = .ok (.iload_n 2, 1) := by decide +kernel
theorem dX9_ringsWithin_145 : decode cX9_ringsWithin 145 = .ok (.iaload, 1) := by decide +kernel
theorem dX9_ringsWithin_146 : decode cX9_ringsWithin 146 = .ok (.iastore, 1) := by decide +kernel
theorem dX9_ringsWithin_147 : decode cX9_ringsWithin 147 = .ok (.iinc 4 1, 3) := by decide +kernel
theorem dX9_ringsWithin_150 : decode cX9_ringsWithin 150 = .ok (.goto (-85), 3) := by decide +kernel
theorem dX9_ringsWithin_153 : decode cX9_ringsWithin 153 = .ok (.iinc 2 1, 3) := by decide +kernel
theorem dX9_ringsWithin_156 : decode cX9_ringsWithin 156 = .ok (.goto (-154), 3) := by decide +kernel
theorem dX9_ringsWithin_159 : decode cX9_ringsWithin 159 = .ok (.return_, 1) := by decide +kernel
theorem dX9_two_0 : decode cX9_two 0 = .ok (.iload_n 1, 1) := by decide +kernel
theorem dX9_two_1 : decode cX9_two 1 = .ok (.iconst 0, 1) := by decide +kernel
theorem dX9_two_2 : decode cX9_two 2 = .ok (.sipush 511, 3) := by decide +kernel
theorem dX9_two_5 : decode cX9_two 5 = .ok (.invokestatic 88, 3) := by decide +kernel
theorem dX9_two_8 : decode cX9_two 8 = .ok (.ifCond .eq 14, 3) := by decide +kernel
theorem dX9_two_11 : decode cX9_two 11 = .ok (.iload_n 2, 1) := by decide +kernel
theorem dX9_two_12 : decode cX9_two 12 = .ok (.iconst 0, 1) := by decide +kernel
theorem dX9_two_13 : decode cX9_two 13 = .ok (.sipush 511, 3) := by decide +kernel
theorem dX9_two_16 : decode cX9_two 16 = .ok (.invokestatic 88, 3) := by decide +kernel
theorem dX9_two_19 : decode cX9_two 19 = .ok (.ifCond .ne 6, 3) := by decide +kernel
theorem dX9_two_22 : decode cX9_two 22 = .ok (.bipush (-2), 2) := by decide +kernel
theorem dX9_two_24 : decode cX9_two 24 = .ok (.ireturn, 1) := by decide +kernel
theorem dX9_two_25 : decode cX9_two 25 = .ok (.iload_n 1, 1) := by decide +kernel
theorem dX9_two_26 : decode cX9_two 26 = .ok (.iconst 1, 1) := by decide +kernel
theorem dX9_two_27 : decode cX9_two 27 = .ok (.aload_n 0, 1) := by decide +kernel
theorem dX9_two_28 : decode cX9_two 28 = .ok (.getfield 99, 3) := by decide +kernel
theorem dX9_two_31 : decode cX9_two 31 = .ok (.ishl, 1) := by decide +kernel
theorem dX9_two_32 : decode cX9_two 32 = .ok (.iconst (-1), 1) := by decide +kernel
theorem dX9_two_33 : decode cX9_two 33 = .ok (.ixor, 1) := by decide +kernel
theorem dX9_two_34 : decode cX9_two 34 = .ok (.iand, 1) := by decide +kernel
theorem dX9_two_35 : decode cX9_two 35 = .ok (.istore 4, 2) := by decide +kernel
theorem dX9_two_37 : decode cX9_two 37 = .ok (.iload_n 2, 1) := by decide +kernel
theorem dX9_two_38 : decode cX9_two 38 = .ok (.iconst 1, 1) := by decide +kernel
theorem dX9_two_39 : decode cX9_two 39 = .ok (.aload_n 0, 1) := by decide +kernel
theorem dX9_two_40 : decode cX9_two 40 = .ok (.getfield 99, 3) := by decide +kernel
theorem dX9_two_43 : decode cX9_two 43 = .ok (.ishl, 1) := by decide +kernel
theorem dX9_two_44 : decode cX9_two 44 = .ok (.iconst (-1), 1) := by decide +kernel
theorem dX9_two_45 : decode cX9_two 45 = .ok (.ixor, 1) := by decide +kernel
theorem dX9_two_46 : decode cX9_two 46 = .ok (.iand, 1) := by decide +kernel
theorem dX9_two_47 : decode cX9_two 47 = .ok (.istore 5, 2) := by decide +kernel
theorem dX9_two_49 : decode cX9_two 49 = .ok (.iload 4, 2) := by decide +kernel
theorem dX9_two_51 : decode cX9_two 51 = .ok (.ifCond .eq 8, 3) := by decide +kernel
theorem dX9_two_54 : decode cX9_two 54 = .ok (.iload 5, 2) := by decide +kernel
theorem dX9_two_56 : decode cX9_two 56 = .ok (.ifCond .ne 6, 3) := by decide +kernel
theorem dX9_two_59 : decode cX9_two 59 = .ok (.bipush (-2), 2) := by decide +kernel
theorem dX9_two_61 : decode cX9_two 61 = .ok (.ireturn, 1) := by decide +kernel
theorem dX9_two_62 : decode cX9_two 62 = .ok (.iload_n 3, 1) := by decide +kernel
theorem dX9_two_63 : decode cX9_two 63 = .ok (.iconst 0, 1) := by decide +kernel
theorem dX9_two_64 : decode cX9_two 64 = .ok (.iconst 1, 1) := by decide +kernel
theorem dX9_two_65 : decode cX9_two 65 = .ok (.invokestatic 88, 3) := by decide +kernel
theorem dX9_two_68 : decode cX9_two 68 = .ok (.ifCond .ne 6, 3) := by decide +kernel
theorem dX9_two_71 : decode cX9_two 71 = .ok (.bipush (-7), 2) := by decide +kernel
theorem dX9_two_73 : decode cX9_two 73 = .ok (.ireturn, 1) := by decide +kernel
theorem dX9_two_74 : decode cX9_two 74 = .ok (.aload_n 0, 1) := by decide +kernel
theorem dX9_two_75 : decode cX9_two 75 = .ok (.iconst 0, 1) := by decide +kernel
theorem dX9_two_76 : decode cX9_two 76 = .ok (.invokevirtual 241, 3) := by decide +kernel
theorem dX9_two_79 : decode cX9_two 79 = .ok (.aload_n 0, 1) := by decide +kernel
theorem dX9_two_80 : decode cX9_two 80 = .ok (.invokevirtual 267, 3) := by decide +kernel
theorem dX9_two_83 : decode cX9_two 83 = .ok (.aload_n 0, 1) := by decide +kernel
theorem dX9_two_84 : decode cX9_two 84 = .ok (.iload 5, 2) := by decide +kernel
theorem dX9_two_86 : decode cX9_two 86 = .ok (.invokevirtual 270, 3) := by decide +kernel
theorem dX9_two_89 : decode cX9_two 89 = .ok (.iconst (-1), 1) := by decide +kernel
theorem dX9_two_90 : decode cX9_two 90 = .ok (.istore 6, 2) := by decide +kernel
theorem dX9_two_92 : decode cX9_two 92 = .ok (.iconst 1, 1) := by decide +kernel
theorem dX9_two_93 : decode cX9_two 93 = .ok (.istore 7, 2) := by decide +kernel
theorem dX9_two_95 : decode cX9_two 95 = .ok (.iload 7, 2) := by decide +kernel
theorem dX9_two_97 : decode cX9_two 97 = .ok (.iconst 1, 1) := by decide +kernel
theorem dX9_two_98 : decode cX9_two 98 = .ok (.aload_n 0, 1) := by decide +kernel
theorem dX9_two_99 : decode cX9_two 99 = .ok (.getfield 211, 3) := by decide +kernel
theorem dX9_two_102 : decode cX9_two 102 = .ok (.ishl, 1) := by decide +kernel
theorem dX9_two_103 : decode cX9_two 103 = .ok (.if_icmp .ge 104, 3) := by decide +kernel
theorem dX9_two_106 : decode cX9_two 106 = .ok (.aload_n 0, 1) := by decide +kernel
theorem dX9_two_107 : decode cX9_two 107 = .ok (.getfield 69, 3) := by decide +kernel
theorem dX9_two_110 : decode cX9_two 110 = .ok (.bipush 9, 2) := by decide +kernel
theorem dX9_two_112 : decode cX9_two 112 = .ok (.iload 7, 2) := by decide +kernel
theorem dX9_two_114 : decode cX9_two 114 = .ok (.imul, 1) := by decide +kernel
theorem dX9_two_115 : decode cX9_two 115 = .ok (.aload_n 0, 1) := by decide +kernel
theorem dX9_two_116 : decode cX9_two 116 = .ok (.getfield 99, 3) := by decide +kernel
theorem dX9_two_119 : decode cX9_two 119 = .ok (.iadd, 1) := by decide +kernel
theorem dX9_two_120 : decode cX9_two 120 = .ok (.iaload, 1) := by decide +kernel
theorem dX9_two_121 : decode cX9_two 121 = .ok (.istore 8, 2) := by decide +kernel
theorem dX9_two_123 : decode cX9_two 123 = .ok (.iload 8, 2) := by decide +kernel
theorem dX9_two_125 : decode cX9_two 125 = .ok (.iconst (-1), 1) := by decide +kernel
theorem dX9_two_126 : decode cX9_two 126 = .ok (.if_icmp .eq 75, 3) := by decide +kernel
theorem dX9_two_129 : decode cX9_two 129 = .ok (.aload_n 0, 1) := by decide +kernel
theorem dX9_two_130 : decode cX9_two 130 = .ok (.iload 7, 2) := by decide +kernel
theorem dX9_two_132 : decode cX9_two 132 = .ok (.invokevirtual 227, 3) := by decide +kernel
theorem dX9_two_135 : decode cX9_two 135 = .ok (.iload 4, 2) := by decide +kernel
theorem dX9_two_137 : decode cX9_two 137 = .ok (.iand, 1) := by decide +kernel
theorem dX9_two_138 : decode cX9_two 138 = .ok (.iload 4, 2) := by decide +kernel
theorem dX9_two_140 : decode cX9_two 140 = .ok (.if_icmp .ne 61, 3) := by decide +kernel
theorem dX9_two_143 : decode cX9_two 143 = .ok (.aload_n 0, 1) := by decide +kernel
theorem dX9_two_144 : decode cX9_two 144 = .ok (.getfield 78, 3) := by decide +kernel
theorem dX9_two_147 : decode cX9_two 147 = .ok (.iconst 1, 1) := by decide +kernel
theorem dX9_two_148 : decode cX9_two 148 = .ok (.aload_n 0, 1) := by decide +kernel
theorem dX9_two_149 : decode cX9_two 149 = .ok (.getfield 211, 3) := by decide +kernel
theorem dX9_two_152 : decode cX9_two 152 = .ok (.ishl, 1) := by decide +kernel
theorem dX9_two_153 : decode cX9_two 153 = .ok (.iconst 1, 1) := by decide +kernel
theorem dX9_two_154 : decode cX9_two 154 = .ok (.isub, 1) := by decide +kernel
theorem dX9_two_155 : decode cX9_two 155 = .ok (.aload_n 0, 1) := by decide +kernel
theorem dX9_two_156 : decode cX9_two 156 = .ok (.iload 7, 2) := by decide +kernel
theorem dX9_two_158 : decode cX9_two 158 = .ok (.invokevirtual 224, 3) := by decide +kernel
theorem dX9_two_161 : decode cX9_two 161 = .ok (.iconst (-1), 1) := by decide +kernel
theorem dX9_two_162 : decode cX9_two 162 = .ok (.ixor, 1) := by decide +kernel
theorem dX9_two_163 : decode cX9_two 163 = .ok (.iand, 1) := by decide +kernel
theorem dX9_two_164 : decode cX9_two 164 = .ok (.iaload, 1) := by decide +kernel
theorem dX9_two_165 : decode cX9_two 165 = .ok (.istore 9, 2) := by decide +kernel
theorem dX9_two_167 : decode cX9_two 167 = .ok (.iload 9, 2) := by decide +kernel
theorem dX9_two_169 : decode cX9_two 169 = .ok (.iconst (-1), 1) := by decide +kernel
theorem dX9_two_170 : decode cX9_two 170 = .ok (.if_icmp .eq 27, 3) := by decide +kernel
theorem dX9_two_173 : decode cX9_two 173 = .ok (.iload 6, 2) := by decide +kernel
theorem dX9_two_175 : decode cX9_two 175 = .ok (.iconst (-1), 1) := by decide +kernel
theorem dX9_two_176 : decode cX9_two 176 = .ok (.if_icmp .eq 13, 3) := by decide +kernel
theorem dX9_two_179 : decode cX9_two 179 = .ok (.iload 8, 2) := by decide +kernel
theorem dX9_two_181 : decode cX9_two 181 = .ok (.iload 9, 2) := by decide +kernel
theorem dX9_two_183 : decode cX9_two 183 = .ok (.iadd, 1) := by decide +kernel
theorem dX9_two_184 : decode cX9_two 184 = .ok (.iload 6, 2) := by decide +kernel
theorem dX9_two_186 : decode cX9_two 186 = .ok (.if_icmp .ge 11, 3) := by decide +kernel
theorem dX9_two_189 : decode cX9_two 189 = .ok (.iload 8, 2) := by decide +kernel
theorem dX9_two_191 : decode cX9_two 191 = .ok (.iload 9, 2) := by decide +kernel
theorem dX9_two_193 : decode cX9_two 193 = .ok (.iadd, 1) := by decide +kernel
theorem dX9_two_194 : decode cX9_two 194 = .ok (.goto 5, 3) := by decide +kernel
theorem dX9_two_197 : decode cX9_two 197 = .ok (.iload 6, 2) := by decide +kernel
theorem dX9_two_199 : decode cX9_two 199 = .ok (.istore 6, 2) := by decide +kernel
theorem dX9_two_201 : decode cX9_two 201 = .ok (.iinc 7 1, 3) := by decide +kernel
theorem dX9_two_204 : decode cX9_two 204 = .ok (.goto (-109), 3) := by decide +kernel
theorem dX9_two_207 : decode cX9_two 207 = .ok (.aload_n 0, 1) := by decide +kernel
theorem dX9_two_208 : decode cX9_two 208 = .ok (.iload 4, 2) := by decide +kernel
theorem dX9_two_210 : decode cX9_two 210 = .ok (.iload 5, 2) := by decide +kernel
theorem dX9_two_212 : decode cX9_two 212 = .ok (.ior, 1) := by decide +kernel
theorem dX9_two_213 : decode cX9_two 213 = .ok (.invokevirtual 273, 3) := by decide +kernel
theorem dX9_two_216 : decode cX9_two 216 = .ok (.istore 7, 2) := by decide +kernel
theorem dX9_two_218 : decode cX9_two 218 = .ok (.iload_n 3, 1) := by decide +kernel
theorem dX9_two_219 : decode cX9_two 219 = .ok (.ifCond .eq 9, 3) := by decide +kernel
theorem dX9_two_222 : decode cX9_two 222 = .ok (.iload 6, 2) := by decide +kernel
theorem dX9_two_224 : decode cX9_two 224 = .ok (.iconst (-1), 1) := by decide +kernel
theorem dX9_two_225 : decode cX9_two 225 = .ok (.if_icmp .ne 8, 3) := by decide +kernel
theorem dX9_two_228 : decode cX9_two 228 = .ok (.iload 6, 2) := by decide +kernel
theorem dX9_two_230 : decode cX9_two 230 = .ok (.goto 18, 3) := by decide +kernel
theorem dX9_two_233 : decode cX9_two 233 = .ok (.iload 7, 2) := by decide +kernel
theorem dX9_two_235 : decode cX9_two 235 = .ok (.iconst (-1), 1) := by decide +kernel
theorem dX9_two_236 : decode cX9_two 236 = .ok (.if_icmp .ne 7, 3) := by decide +kernel
theorem dX9_two_239 : decode cX9_two 239 = .ok (.iconst (-1), 1) := by decide +kernel
theorem dX9_two_240 : decode cX9_two 240 = .ok (.goto 8, 3) := by decide +kernel
theorem dX9_two_243 : decode cX9_two 243 = .ok (.iload 6, 2) := by decide +kernel
theorem dX9_two_245 : decode cX9_two 245 = .ok (.iload 7, 2) := by decide +kernel
theorem dX9_two_247 : decode cX9_two 247 = .ok (.isub, 1) := by decide +kernel
theorem dX9_two_248 : decode cX9_two 248 = .ok (.ireturn, 1) := by decide +kernel
theorem dX9_round_0 : decode cX9_round 0 = .ok (.iload_n 1, 1) := by decide +kernel
theorem dX9_round_1 : decode cX9_round 1 = .ok (.iconst 0, 1) := by decide +kernel
theorem dX9_round_2 : decode cX9_round 2 = .ok (.iconst 3, 1) := by decide +kernel
theorem dX9_round_3 : decode cX9_round 3 = .ok (.invokestatic 88, 3) := by decide +kernel
theorem dX9_round_6 : decode cX9_round 6 = .ok (.ifCond .eq 17, 3) := by decide +kernel
theorem dX9_round_9 : decode cX9_round 9 = .ok (.aload_n 0, 1) := by decide +kernel
theorem dX9_round_10 : decode cX9_round 10 = .ok (.aload_n 0, 1) := by decide +kernel
theorem dX9_round_11 : decode cX9_round 11 = .ok (.iconst 0, 1) := by decide +kernel
theorem dX9_round_12 : decode cX9_round 12 = .ok (.iconst (-1), 1) := by decide +kernel
theorem dX9_round_13 : decode cX9_round 13 = .ok (.invokevirtual 260, 3) := by decide +kernel
theorem dX9_round_16 : decode cX9_round 16 = .ok (.iload_n 1, 1) := by decide +kernel
theorem dX9_round_17 : decode cX9_round 17 = .ok (.invokevirtual 263, 3) := by decide +kernel
theorem dX9_round_20 : decode cX9_round 20 = .ok (.goto 5, 3) := by decide +kernel
theorem dX9_round_23 : decode cX9_round 23 = .ok (.bipush (-2), 2) := by decide +kernel
theorem dX9_round_25 : decode cX9_round 25 = .ok (.ireturn, 1) := by decide +kernel
theorem dX9_joined_0 : decode cX9_joined 0 = .ok (.iconst 1, 1) := by decide +kernel
theorem dX9_joined_1 : decode cX9_joined 1 = .ok (.aload_n 0, 1) := by decide +kernel
theorem dX9_joined_2 : decode cX9_joined 2 = .ok (.getfield 99, 3) := by decide +kernel
theorem dX9_joined_5 : decode cX9_joined 5 = .ok (.ishl, 1) := by decide +kernel
theorem dX9_joined_6 : decode cX9_joined 6 = .ok (.istore_n 1, 1) := by decide +kernel
theorem dX9_joined_7 : decode cX9_joined 7 = .ok (.iconst 0, 1) := by decide +kernel
theorem dX9_joined_8 : decode cX9_joined 8 = .ok (.istore_n 2, 1) := by decide +kernel
theorem dX9_joined_9 : decode cX9_joined 9 = .ok (.iload_n 2, 1) := by decide +kernel
theorem dX9_joined_10 : decode cX9_joined 10 = .ok (.bipush 9, 2) := by decide +kernel
theorem dX9_joined_12 : decode cX9_joined 12 = .ok (.if_icmp .ge 118, 3) := by decide +kernel
theorem dX9_joined_15 : decode cX9_joined 15 = .ok (.iconst 0, 1) := by decide +kernel
theorem dX9_joined_16 : decode cX9_joined 16 = .ok (.istore_n 3, 1) := by decide +kernel
theorem dX9_joined_17 : decode cX9_joined 17 = .ok (.iload_n 3, 1) := by decide +kernel
theorem dX9_joined_18 : decode cX9_joined 18 = .ok (.aload_n 0, 1) := by decide +kernel
theorem dX9_joined_19 : decode cX9_joined 19 = .ok (.getfield 211, 3) := by decide +kernel
theorem dX9_joined_22 : decode cX9_joined 22 = .ok (.if_icmp .ge 102, 3) := by decide +kernel
theorem dX9_joined_25 : decode cX9_joined 25 = .ok (.aload_n 0, 1) := by decide +kernel
theorem dX9_joined_26 : decode cX9_joined 26 = .ok (.getfield 105, 3) := by decide +kernel
theorem dX9_joined_29 : decode cX9_joined 29 = .ok (.iload_n 3, 1) := by decide +kernel
theorem dX9_joined_30 : decode cX9_joined 30 = .ok (.ishr, 1) := by decide +kernel
theorem dX9_joined_31 : decode cX9_joined 31 = .ok (.iconst 1, 1) := by decide +kernel
theorem dX9_joined_32 : decode cX9_joined 32 = .ok (.iand, 1) := by decide +kernel
theorem dX9_joined_33 : decode cX9_joined 33 = .ok (.ifCond .ne 85, 3) := by decide +kernel
theorem dX9_joined_36 : decode cX9_joined 36 = .ok (.iload_n 1, 1) := by decide +kernel
theorem dX9_joined_37 : decode cX9_joined 37 = .ok (.iload_n 1, 1) := by decide +kernel
theorem dX9_joined_38 : decode cX9_joined 38 = .ok (.aload_n 0, 1) := by decide +kernel
theorem dX9_joined_39 : decode cX9_joined 39 = .ok (.getfield 17, 3) := by decide +kernel
theorem dX9_joined_42 : decode cX9_joined 42 = .ok (.iload_n 3, 1) := by decide +kernel
theorem dX9_joined_43 : decode cX9_joined 43 = .ok (.iaload, 1) := by decide +kernel
theorem dX9_joined_44 : decode cX9_joined 44 = .ok (.ishr, 1) := by decide +kernel
theorem dX9_joined_45 : decode cX9_joined 45 = .ok (.iconst 1, 1) := by decide +kernel
theorem dX9_joined_46 : decode cX9_joined 46 = .ok (.iand, 1) := by decide +kernel
theorem dX9_joined_47 : decode cX9_joined 47 = .ok (.iconst 1, 1) := by decide +kernel
theorem dX9_joined_48 : decode cX9_joined 48 = .ok (.if_icmp .ne 25, 3) := by decide +kernel
theorem dX9_joined_51 : decode cX9_joined 51 = .ok (.aload_n 0, 1) := by decide +kernel
theorem dX9_joined_52 : decode cX9_joined 52 = .ok (.getfield 62, 3) := by decide +kernel
theorem dX9_joined_55 : decode cX9_joined 55 = .ok (.iconst 4, 1) := by decide +kernel
theorem dX9_joined_56 : decode cX9_joined 56 = .ok (.iload_n 3, 1) := by decide +kernel
theorem dX9_joined_57 : decode cX9_joined 57 = .ok (.imul, 1) := by decide +kernel
theorem dX9_joined_58 : decode cX9_joined 58 = .ok (.iaload, 1) := by decide +kernel
theorem dX9_joined_59 : decode cX9_joined 59 = .ok (.ifCond .le 14, 3) := by decide +kernel
theorem dX9_joined_62 : decode cX9_joined 62 = .ok (.iconst 1, 1) := by decide +kernel
theorem dX9_joined_63 : decode cX9_joined 63 = .ok (.aload_n 0, 1) := by decide +kernel
theorem dX9_joined_64 : decode cX9_joined 64 = .ok (.getfield 20, 3) := by decide +kernel
theorem dX9_joined_67 : decode cX9_joined 67 = .ok (.iload_n 3, 1) := by decide +kernel
theorem dX9_joined_68 : decode cX9_joined 68 = .ok (.iaload, 1) := by decide +kernel
theorem dX9_joined_69 : decode cX9_joined 69 = .ok (.ishl, 1) := by decide +kernel
theorem dX9_joined_70 : decode cX9_joined 70 = .ok (.goto 4, 3) := by decide +kernel
theorem dX9_joined_73 : decode cX9_joined 73 = .ok (.iconst 0, 1) := by decide +kernel
theorem dX9_joined_74 : decode cX9_joined 74 = .ok (.ior, 1) := by decide +kernel
theorem dX9_joined_75 : decode cX9_joined 75 = .ok (.istore_n 1, 1) := by decide +kernel
theorem dX9_joined_76 : decode cX9_joined 76 = .ok (.iload_n 1, 1) := by decide +kernel
theorem dX9_joined_77 : decode cX9_joined 77 = .ok (.iload_n 1, 1) := by decide +kernel
theorem dX9_joined_78 : decode cX9_joined 78 = .ok (.aload_n 0, 1) := by decide +kernel
theorem dX9_joined_79 : decode cX9_joined 79 = .ok (.getfield 20, 3) := by decide +kernel
theorem dX9_joined_82 : decode cX9_joined 82 = .ok (.iload_n 3, 1) := by decide +kernel
theorem dX9_joined_83 : decode cX9_joined 83 = .ok (.iaload, 1) := by decide +kernel
theorem dX9_joined_84 : decode cX9_joined 84 = .ok (.ishr, 1) := by decide +kernel
theorem dX9_joined_85 : decode cX9_joined 85 = .ok (.iconst 1, 1) := by decide +kernel
theorem dX9_joined_86 : decode cX9_joined 86 = .ok (.iand, 1) := by decide +kernel
theorem dX9_joined_87 : decode cX9_joined 87 = .ok (.iconst 1, 1) := by decide +kernel
theorem dX9_joined_88 : decode cX9_joined 88 = .ok (.if_icmp .ne 27, 3) := by decide +kernel
theorem dX9_joined_91 : decode cX9_joined 91 = .ok (.aload_n 0, 1) := by decide +kernel
theorem dX9_joined_92 : decode cX9_joined 92 = .ok (.getfield 62, 3) := by decide +kernel
theorem dX9_joined_95 : decode cX9_joined 95 = .ok (.iconst 4, 1) := by decide +kernel
theorem dX9_joined_96 : decode cX9_joined 96 = .ok (.iload_n 3, 1) := by decide +kernel
theorem dX9_joined_97 : decode cX9_joined 97 = .ok (.imul, 1) := by decide +kernel
theorem dX9_joined_98 : decode cX9_joined 98 = .ok (.iconst 1, 1) := by decide +kernel
theorem dX9_joined_99 : decode cX9_joined 99 = .ok (.iadd, 1) := by decide +kernel
theorem dX9_joined_100 : decode cX9_joined 100 = .ok (.iaload, 1) := by decide +kernel
theorem dX9_joined_101 : decode cX9_joined 101 = .ok (.ifCond .le 14, 3) := by decide +kernel
theorem dX9_joined_104 : decode cX9_joined 104 = .ok (.iconst 1, 1) := by decide +kernel
theorem dX9_joined_105 : decode cX9_joined 105 = .ok (.aload_n 0, 1) := by decide +kernel
theorem dX9_joined_106 : decode cX9_joined 106 = .ok (.getfield 17, 3) := by decide +kernel
theorem dX9_joined_109 : decode cX9_joined 109 = .ok (.iload_n 3, 1) := by decide +kernel
theorem dX9_joined_110 : decode cX9_joined 110 = .ok (.iaload, 1) := by decide +kernel
theorem dX9_joined_111 : decode cX9_joined 111 = .ok (.ishl, 1) := by decide +kernel
theorem dX9_joined_112 : decode cX9_joined 112 = .ok (.goto 4, 3) := by decide +kernel
theorem dX9_joined_115 : decode cX9_joined 115 = .ok (.iconst 0, 1) := by decide +kernel
theorem dX9_joined_116 : decode cX9_joined 116 = .ok (.ior, 1) := by decide +kernel
theorem dX9_joined_117 : decode cX9_joined 117 = .ok (.istore_n 1, 1) := by decide +kernel
theorem dX9_joined_118 : decode cX9_joined 118 = .ok (.iinc 3 1, 3) := by decide +kernel
theorem dX9_joined_121 : decode cX9_joined 121 = .ok (.goto (-104), 3) := by decide +kernel
theorem dX9_joined_124 : decode cX9_joined 124 = .ok (.iinc 2 1, 3) := by decide +kernel
theorem dX9_joined_127 : decode cX9_joined 127 = .ok (.goto (-118), 3) := by decide +kernel
theorem dX9_joined_130 : decode cX9_joined 130 = .ok (.iload_n 1, 1) := by decide +kernel
theorem dX9_joined_131 : decode cX9_joined 131 = .ok (.iconst 1, 1) := by decide +kernel
theorem dX9_joined_132 : decode cX9_joined 132 = .ok (.aload_n 0, 1) := by decide +kernel
theorem dX9_joined_133 : decode cX9_joined 133 = .ok (.getfield 99, 3) := by decide +kernel
theorem dX9_joined_136 : decode cX9_joined 136 = .ok (.ishl, 1) := by decide +kernel
theorem dX9_joined_137 : decode cX9_joined 137 = .ok (.iconst (-1), 1) := by decide +kernel
theorem dX9_joined_138 : decode cX9_joined 138 = .ok (.ixor, 1) := by decide +kernel
theorem dX9_joined_139 : decode cX9_joined 139 = .ok (.iand, 1) := by decide +kernel
theorem dX9_joined_140 : decode cX9_joined 140 = .ok (.ireturn, 1) := by decide +kernel
theorem dX9_ringedNow_0 : decode cX9_ringedNow 0 = .ok (.aload_n 0, 1) := by decide +kernel
theorem dX9_ringedNow_1 : decode cX9_ringedNow 1 = .ok (.iconst 0, 1) := by decide +kernel
theorem dX9_ringedNow_2 : decode cX9_ringedNow 2 = .ok (.invokevirtual 241, 3) := by decide +kernel
theorem dX9_ringedNow_5 : decode cX9_ringedNow 5 = .ok (.aload_n 0, 1) := by decide +kernel
theorem dX9_ringedNow_6 : decode cX9_ringedNow 6 = .ok (.invokevirtual 267, 3) := by decide +kernel
theorem dX9_ringedNow_9 : decode cX9_ringedNow 9 = .ok (.aload_n 0, 1) := by decide +kernel
theorem dX9_ringedNow_10 : decode cX9_ringedNow 10 = .ok (.iconst 0, 1) := by decide +kernel
theorem dX9_ringedNow_11 : decode cX9_ringedNow 11 = .ok (.invokevirtual 276, 3) := by decide +kernel
theorem dX9_ringedNow_14 : decode cX9_ringedNow 14 = .ok (.ireturn, 1) := by decide +kernel
theorem dX9_never_0 : decode cX9_never 0 = .ok (.iload_n 1, 1) := by decide +kernel
theorem dX9_never_1 : decode cX9_never 1 = .ok (.iconst 0, 1) := by decide +kernel
theorem dX9_never_2 : decode cX9_never 2 = .ok (.iconst 2, 1) := by decide +kernel
theorem dX9_never_3 : decode cX9_never 3 = .ok (.invokestatic 88, 3) := by decide +kernel
theorem dX9_never_6 : decode cX9_never 6 = .ok (.ifCond .ne 6, 3) := by decide +kernel
theorem dX9_never_9 : decode cX9_never 9 = .ok (.bipush (-2), 2) := by decide +kernel
theorem dX9_never_11 : decode cX9_never 11 = .ok (.ireturn, 1) := by decide +kernel
theorem dX9_never_12 : decode cX9_never 12 = .ok (.aload_n 0, 1) := by decide +kernel
theorem dX9_never_13 : decode cX9_never 13 = .ok (.invokevirtual 279, 3) := by decide +kernel
theorem dX9_never_16 : decode cX9_never 16 = .ok (.istore_n 2, 1) := by decide +kernel
theorem dX9_never_17 : decode cX9_never 17 = .ok (.aload_n 0, 1) := by decide +kernel
theorem dX9_never_18 : decode cX9_never 18 = .ok (.invokevirtual 282, 3) := by decide +kernel
theorem dX9_never_21 : decode cX9_never 21 = .ok (.istore_n 3, 1) := by decide +kernel
theorem dX9_never_22 : decode cX9_never 22 = .ok (.iload_n 1, 1) := by decide +kernel
theorem dX9_never_23 : decode cX9_never 23 = .ok (.ifCond .ne 7, 3) := by decide +kernel
theorem dX9_never_26 : decode cX9_never 26 = .ok (.iload_n 2, 1) := by decide +kernel
theorem dX9_never_27 : decode cX9_never 27 = .ok (.goto 32, 3) := by decide +kernel
theorem dX9_never_30 : decode cX9_never 30 = .ok (.iload_n 1, 1) := by decide +kernel
theorem dX9_never_31 : decode cX9_never 31 = .ok (.iconst 1, 1) := by decide +kernel
theorem dX9_never_32 : decode cX9_never 32 = .ok (.if_icmp .ne 11, 3) := by decide +kernel
theorem dX9_never_35 : decode cX9_never 35 = .ok (.iload_n 3, 1) := by decide +kernel
theorem dX9_never_36 : decode cX9_never 36 = .ok (.iload_n 2, 1) := by decide +kernel
theorem dX9_never_37 : decode cX9_never 37 = .ok (.iconst (-1), 1) := by decide +kernel
theorem dX9_never_38 : decode cX9_never 38 = .ok (.ixor, 1) := by decide +kernel
theorem dX9_never_39 : decode cX9_never 39 = .ok (.iand, 1) := by decide +kernel
theorem dX9_never_40 : decode cX9_never 40 = .ok (.goto 19, 3) := by decide +kernel
theorem dX9_never_43 : decode cX9_never 43 = .ok (.sipush 511, 3) := by decide +kernel
theorem dX9_never_46 : decode cX9_never 46 = .ok (.iconst 1, 1) := by decide +kernel
theorem dX9_never_47 : decode cX9_never 47 = .ok (.aload_n 0, 1) := by decide +kernel
theorem dX9_never_48 : decode cX9_never 48 = .ok (.getfield 99, 3) := by decide +kernel
theorem dX9_never_51 : decode cX9_never 51 = .ok (.ishl, 1) := by decide +kernel
theorem dX9_never_52 : decode cX9_never 52 = .ok (.iconst (-1), 1) := by decide +kernel
theorem dX9_never_53 : decode cX9_never 53 = .ok (.ixor, 1) := by decide +kernel
theorem dX9_never_54 : decode cX9_never 54 = .ok (.iand, 1) := by decide +kernel
theorem dX9_never_55 : decode cX9_never 55 = .ok (.iload_n 3, 1) := by decide +kernel
theorem dX9_never_56 : decode cX9_never 56 = .ok (.iconst (-1), 1) := by decide +kernel
theorem dX9_never_57 : decode cX9_never 57 = .ok (.ixor, 1) := by decide +kernel
theorem dX9_never_58 : decode cX9_never 58 = .ok (.iand, 1) := by decide +kernel
theorem dX9_never_59 : decode cX9_never 59 = .ok (.ireturn, 1) := by decide +kernel
theorem dX9_bars_0 : decode cX9_bars 0 = .ok (.aload_n 0, 1) := by decide +kernel
theorem dX9_bars_1 : decode cX9_bars 1 = .ok (.iload_n 1, 1) := by decide +kernel
theorem dX9_bars_2 : decode cX9_bars 2 = .ok (.invokevirtual 257, 3) := by decide +kernel
theorem dX9_bars_5 : decode cX9_bars 5 = .ok (.ifCond .ne 6, 3) := by decide +kernel
theorem dX9_bars_8 : decode cX9_bars 8 = .ok (.bipush (-5), 2) := by decide +kernel
theorem dX9_bars_10 : decode cX9_bars 10 = .ok (.ireturn, 1) := by decide +kernel
theorem dX9_bars_11 : decode cX9_bars 11 = .ok (.aload_n 0, 1) := by decide +kernel
theorem dX9_bars_12 : decode cX9_bars 12 = .ok (.invokevirtual 279, 3) := by decide +kernel
theorem dX9_bars_15 : decode cX9_bars 15 = .ok (.iload_n 1, 1) := by decide +kernel
theorem dX9_bars_16 : decode cX9_bars 16 = .ok (.ishr, 1) := by decide +kernel
theorem dX9_bars_17 : decode cX9_bars 17 = .ok (.iconst 1, 1) := by decide +kernel
theorem dX9_bars_18 : decode cX9_bars 18 = .ok (.iand, 1) := by decide +kernel
theorem dX9_bars_19 : decode cX9_bars 19 = .ok (.ifCond .ne 6, 3) := by decide +kernel
theorem dX9_bars_22 : decode cX9_bars 22 = .ok (.bipush (-3), 2) := by decide +kernel
theorem dX9_bars_24 : decode cX9_bars 24 = .ok (.ireturn, 1) := by decide +kernel
theorem dX9_bars_25 : decode cX9_bars 25 = .ok (.iconst 0, 1) := by decide +kernel
theorem dX9_bars_26 : decode cX9_bars 26 = .ok (.istore_n 2, 1) := by decide +kernel
theorem dX9_bars_27 : decode cX9_bars 27 = .ok (.iconst 0, 1) := by decide +kernel
theorem dX9_bars_28 : decode cX9_bars 28 = .ok (.istore_n 3, 1) := by decide +kernel
theorem dX9_bars_29 : decode cX9_bars 29 = .ok (.iload_n 3, 1) := by decide +kernel
theorem dX9_bars_30 : decode cX9_bars 30 = .ok (.aload_n 0, 1) := by decide +kernel
theorem dX9_bars_31 : decode cX9_bars 31 = .ok (.getfield 92, 3) := by decide +kernel
theorem dX9_bars_34 : decode cX9_bars 34 = .ok (.if_icmp .ge 33, 3) := by decide +kernel
theorem dX9_bars_37 : decode cX9_bars 37 = .ok (.iload_n 2, 1) := by decide +kernel
theorem dX9_bars_38 : decode cX9_bars 38 = .ok (.aload_n 0, 1) := by decide +kernel
theorem dX9_bars_39 : decode cX9_bars 39 = .ok (.iconst 1, 1) := by decide +kernel
theorem dX9_bars_40 : decode cX9_bars 40 = .ok (.iload_n 3, 1) := by decide +kernel
theorem dX9_bars_41 : decode cX9_bars 41 = .ok (.ishl, 1) := by decide +kernel
theorem dX9_bars_42 : decode cX9_bars 42 = .ok (.invokevirtual 276, 3) := by decide +kernel
theorem dX9_bars_45 : decode cX9_bars 45 = .ok (.iload_n 1, 1) := by decide +kernel
theorem dX9_bars_46 : decode cX9_bars 46 = .ok (.ishr, 1) := by decide +kernel
theorem dX9_bars_47 : decode cX9_bars 47 = .ok (.iconst 1, 1) := by decide +kernel
theorem dX9_bars_48 : decode cX9_bars 48 = .ok (.iand, 1) := by decide +kernel
theorem dX9_bars_49 : decode cX9_bars 49 = .ok (.ifCond .ne 9, 3) := by decide +kernel
theorem dX9_bars_52 : decode cX9_bars 52 = .ok (.iconst 1, 1) := by decide +kernel
theorem dX9_bars_53 : decode cX9_bars 53 = .ok (.iload_n 3, 1) := by decide +kernel
theorem dX9_bars_54 : decode cX9_bars 54 = .ok (.ishl, 1) := by decide +kernel
theorem dX9_bars_55 : decode cX9_bars 55 = .ok (.goto 4, 3) := by decide +kernel
theorem dX9_bars_58 : decode cX9_bars 58 = .ok (.iconst 0, 1) := by decide +kernel
theorem dX9_bars_59 : decode cX9_bars 59 = .ok (.ior, 1) := by decide +kernel
theorem dX9_bars_60 : decode cX9_bars 60 = .ok (.istore_n 2, 1) := by decide +kernel
theorem dX9_bars_61 : decode cX9_bars 61 = .ok (.iinc 3 1, 3) := by decide +kernel
theorem dX9_bars_64 : decode cX9_bars 64 = .ok (.goto (-35), 3) := by decide +kernel
theorem dX9_bars_67 : decode cX9_bars 67 = .ok (.iload_n 2, 1) := by decide +kernel
theorem dX9_bars_68 : decode cX9_bars 68 = .ok (.ireturn, 1) := by decide +kernel
theorem dX9_bears_0 : decode cX9_bears 0 = .ok (.aload_n 0, 1) := by decide +kernel
theorem dX9_bears_1 : decode cX9_bears 1 = .ok (.invokevirtual 279, 3) := by decide +kernel
theorem dX9_bears_4 : decode cX9_bears 4 = .ok (.istore_n 1, 1) := by decide +kernel
theorem dX9_bears_5 : decode cX9_bears 5 = .ok (.iconst 0, 1) := by decide +kernel
theorem dX9_bears_6 : decode cX9_bears 6 = .ok (.istore_n 2, 1) := by decide +kernel
theorem dX9_bears_7 : decode cX9_bears 7 = .ok (.iconst 0, 1) := by decide +kernel
theorem dX9_bears_8 : decode cX9_bears 8 = .ok (.istore_n 3, 1) := by decide +kernel
theorem dX9_bears_9 : decode cX9_bears 9 = .ok (.iload_n 3, 1) := by decide +kernel
theorem dX9_bears_10 : decode cX9_bears 10 = .ok (.aload_n 0, 1) := by decide +kernel
theorem dX9_bears_11 : decode cX9_bears 11 = .ok (.getfield 92, 3) := by decide +kernel
theorem dX9_bears_14 : decode cX9_bears 14 = .ok (.if_icmp .ge 30, 3) := by decide +kernel
theorem dX9_bears_17 : decode cX9_bears 17 = .ok (.iload_n 2, 1) := by decide +kernel
theorem dX9_bears_18 : decode cX9_bears 18 = .ok (.aload_n 0, 1) := by decide +kernel
theorem dX9_bears_19 : decode cX9_bears 19 = .ok (.iconst 1, 1) := by decide +kernel
theorem dX9_bears_20 : decode cX9_bears 20 = .ok (.iload_n 3, 1) := by decide +kernel
theorem dX9_bears_21 : decode cX9_bears 21 = .ok (.ishl, 1) := by decide +kernel
theorem dX9_bears_22 : decode cX9_bears 22 = .ok (.invokevirtual 276, 3) := by decide +kernel
theorem dX9_bears_25 : decode cX9_bears 25 = .ok (.iload_n 1, 1) := by decide +kernel
theorem dX9_bears_26 : decode cX9_bears 26 = .ok (.if_icmp .eq 9, 3) := by decide +kernel
theorem dX9_bears_29 : decode cX9_bears 29 = .ok (.iconst 1, 1) := by decide +kernel
theorem dX9_bears_30 : decode cX9_bears 30 = .ok (.iload_n 3, 1) := by decide +kernel
theorem dX9_bears_31 : decode cX9_bears 31 = .ok (.ishl, 1) := by decide +kernel
theorem dX9_bears_32 : decode cX9_bears 32 = .ok (.goto 4, 3) := by decide +kernel
theorem dX9_bears_35 : decode cX9_bears 35 = .ok (.iconst 0, 1) := by decide +kernel
theorem dX9_bears_36 : decode cX9_bears 36 = .ok (.ior, 1) := by decide +kernel
theorem dX9_bears_37 : decode cX9_bears 37 = .ok (.istore_n 2, 1) := by decide +kernel
theorem dX9_bears_38 : decode cX9_bears 38 = .ok (.iinc 3 1, 3) := by decide +kernel
theorem dX9_bears_41 : decode cX9_bears 41 = .ok (.goto (-32), 3) := by decide +kernel
theorem dX9_bears_44 : decode cX9_bears 44 = .ok (.iload_n 2, 1) := by decide +kernel
theorem dX9_bears_45 : decode cX9_bears 45 = .ok (.ireturn, 1) := by decide +kernel
theorem dX9_part_0 : decode cX9_part 0 = .ok (.iload_n 1, 1) := by decide +kernel
theorem dX9_part_1 : decode cX9_part 1 = .ok (.invokestatic 254, 3) := by decide +kernel
theorem dX9_part_4 : decode cX9_part 4 = .ok (.ifCond .ne 6, 3) := by decide +kernel
theorem dX9_part_7 : decode cX9_part 7 = .ok (.bipush (-5), 2) := by decide +kernel
theorem dX9_part_9 : decode cX9_part 9 = .ok (.ireturn, 1) := by decide +kernel
theorem dX9_part_10 : decode cX9_part 10 = .ok (.aload_n 0, 1) := by decide +kernel
theorem dX9_part_11 : decode cX9_part 11 = .ok (.getfield 99, 3) := by decide +kernel
theorem dX9_part_14 : decode cX9_part 14 = .ok (.istore_n 2, 1) := by decide +kernel
theorem dX9_part_15 : decode cX9_part 15 = .ok (.aload_n 0, 1) := by decide +kernel
theorem dX9_part_16 : decode cX9_part 16 = .ok (.iload_n 1, 1) := by decide +kernel
theorem dX9_part_17 : decode cX9_part 17 = .ok (.putfield 99, 3) := by decide +kernel
theorem dX9_part_20 : decode cX9_part 20 = .ok (.aload_n 0, 1) := by decide +kernel
theorem dX9_part_21 : decode cX9_part 21 = .ok (.invokevirtual 279, 3) := by decide +kernel
theorem dX9_part_24 : decode cX9_part 24 = .ok (.istore_n 3, 1) := by decide +kernel
theorem dX9_part_25 : decode cX9_part 25 = .ok (.aload_n 0, 1) := by decide +kernel
theorem dX9_part_26 : decode cX9_part 26 = .ok (.iload_n 2, 1) := by decide +kernel
theorem dX9_part_27 : decode cX9_part 27 = .ok (.putfield 99, 3) := by decide +kernel
theorem dX9_part_30 : decode cX9_part 30 = .ok (.iload_n 3, 1) := by decide +kernel
theorem dX9_part_31 : decode cX9_part 31 = .ok (.ireturn, 1) := by decide +kernel
theorem dX9_allFrom_0 : decode cX9_allFrom 0 = .ok (.aload_n 0, 1) := by decide +kernel
theorem dX9_allFrom_1 : decode cX9_allFrom 1 = .ok (.getfield 99, 3) := by decide +kernel
theorem dX9_allFrom_4 : decode cX9_allFrom 4 = .ok (.istore_n 3, 1) := by decide +kernel
theorem dX9_allFrom_5 : decode cX9_allFrom 5 = .ok (.aload_n 0, 1) := by decide +kernel
theorem dX9_allFrom_6 : decode cX9_allFrom 6 = .ok (.iload_n 1, 1) := by decide +kernel
theorem dX9_allFrom_7 : decode cX9_allFrom 7 = .ok (.putfield 99, 3) := by decide +kernel
theorem dX9_allFrom_10 : decode cX9_allFrom 10 = .ok (.aload_n 0, 1) := by decide +kernel
theorem dX9_allFrom_11 : decode cX9_allFrom 11 = .ok (.iconst 0, 1) := by decide +kernel
theorem dX9_allFrom_12 : decode cX9_allFrom 12 = .ok (.invokevirtual 241, 3) := by decide +kernel
theorem dX9_allFrom_15 : decode cX9_allFrom 15 = .ok (.aload_n 0, 1) := by decide +kernel
theorem dX9_allFrom_16 : decode cX9_allFrom 16 = .ok (.invokevirtual 267, 3) := by decide +kernel
theorem dX9_allFrom_19 : decode cX9_allFrom 19 = .ok (.iconst 0, 1) := by decide +kernel
theorem dX9_allFrom_20 : decode cX9_allFrom 20 = .ok (.istore 4, 2) := by decide +kernel
theorem dX9_allFrom_22 : decode cX9_allFrom 22 = .ok (.iconst 0, 1) := by decide +kernel
theorem dX9_allFrom_23 : decode cX9_allFrom 23 = .ok (.istore 5, 2) := by decide +kernel
theorem dX9_allFrom_25 : decode cX9_allFrom 25 = .ok (.iload 5, 2) := by decide +kernel
theorem dX9_allFrom_27 : decode cX9_allFrom 27 = .ok (.bipush 9, 2) := by decide +kernel
theorem dX9_allFrom_29 : decode cX9_allFrom 29 = .ok (.if_icmp .ge 58, 3) := by decide +kernel
theorem dX9_allFrom_32 : decode cX9_allFrom 32 = .ok (.iload 4, 2) := by decide +kernel
theorem dX9_allFrom_34 : decode cX9_allFrom 34 = .ok (.iconst (-1), 1) := by decide +kernel
theorem dX9_allFrom_35 : decode cX9_allFrom 35 = .ok (.if_icmp .eq 52, 3) := by decide +kernel
theorem dX9_allFrom_38 : decode cX9_allFrom 38 = .ok (.iload_n 2, 1) := by decide +kernel
theorem dX9_allFrom_39 : decode cX9_allFrom 39 = .ok (.iload 5, 2) := by decide +kernel
theorem dX9_allFrom_41 : decode cX9_allFrom 41 = .ok (.ishr, 1) := by decide +kernel
theorem dX9_allFrom_42 : decode cX9_allFrom 42 = .ok (.iconst 1, 1) := by decide +kernel
theorem dX9_allFrom_43 : decode cX9_allFrom 43 = .ok (.iand, 1) := by decide +kernel
theorem dX9_allFrom_44 : decode cX9_allFrom 44 = .ok (.iconst 1, 1) := by decide +kernel
theorem dX9_allFrom_45 : decode cX9_allFrom 45 = .ok (.if_icmp .ne 36, 3) := by decide +kernel
theorem dX9_allFrom_48 : decode cX9_allFrom 48 = .ok (.iload 5, 2) := by decide +kernel
theorem dX9_allFrom_50 : decode cX9_allFrom 50 = .ok (.iload_n 1, 1) := by decide +kernel
theorem dX9_allFrom_51 : decode cX9_allFrom 51 = .ok (.if_icmp .eq 30, 3) := by decide +kernel
theorem dX9_allFrom_54 : decode cX9_allFrom 54 = .ok (.aload_n 0, 1) := by decide +kernel
theorem dX9_allFrom_55 : decode cX9_allFrom 55 = .ok (.iconst 1, 1) := by decide +kernel
theorem dX9_allFrom_56 : decode cX9_allFrom 56 = .ok (.iload 5, 2) := by decide +kernel
theorem dX9_allFrom_58 : decode cX9_allFrom 58 = .ok (.ishl, 1) := by decide +kernel
theorem dX9_allFrom_59 : decode cX9_allFrom 59 = .ok (.invokevirtual 273, 3) := by decide +kernel
theorem dX9_allFrom_62 : decode cX9_allFrom 62 = .ok (.istore 6, 2) := by decide +kernel
theorem dX9_allFrom_64 : decode cX9_allFrom 64 = .ok (.iload 6, 2) := by decide +kernel
theorem dX9_allFrom_66 : decode cX9_allFrom 66 = .ok (.iconst (-1), 1) := by decide +kernel
theorem dX9_allFrom_67 : decode cX9_allFrom 67 = .ok (.if_icmp .ne 7, 3) := by decide +kernel
theorem dX9_allFrom_70 : decode cX9_allFrom 70 = .ok (.iconst (-1), 1) := by decide +kernel
theorem dX9_allFrom_71 : decode cX9_allFrom 71 = .ok (.goto 8, 3) := by decide +kernel
theorem dX9_allFrom_74 : decode cX9_allFrom 74 = .ok (.iload 4, 2) := by decide +kernel
theorem dX9_allFrom_76 : decode cX9_allFrom 76 = .ok (.iload 6, 2) := by decide +kernel
theorem dX9_allFrom_78 : decode cX9_allFrom 78 = .ok (.iadd, 1) := by decide +kernel
theorem dX9_allFrom_79 : decode cX9_allFrom 79 = .ok (.istore 4, 2) := by decide +kernel
theorem dX9_allFrom_81 : decode cX9_allFrom 81 = .ok (.iinc 5 1, 3) := by decide +kernel
theorem dX9_allFrom_84 : decode cX9_allFrom 84 = .ok (.goto (-59), 3) := by decide +kernel
theorem dX9_allFrom_87 : decode cX9_allFrom 87 = .ok (.aload_n 0, 1) := by decide +kernel
theorem dX9_allFrom_88 : decode cX9_allFrom 88 = .ok (.iload_n 3, 1) := by decide +kernel
theorem dX9_allFrom_89 : decode cX9_allFrom 89 = .ok (.putfield 99, 3) := by decide +kernel
theorem dX9_allFrom_92 : decode cX9_allFrom 92 = .ok (.iload 4, 2) := by decide +kernel
theorem dX9_allFrom_94 : decode cX9_allFrom 94 = .ok (.ireturn, 1) := by decide +kernel
theorem dX9_house_0 : decode cX9_house 0 = .ok (.iload_n 1, 1) := by decide +kernel
theorem dX9_house_1 : decode cX9_house 1 = .ok (.iconst 0, 1) := by decide +kernel
theorem dX9_house_2 : decode cX9_house 2 = .ok (.sipush 511, 3) := by decide +kernel
theorem dX9_house_5 : decode cX9_house 5 = .ok (.invokestatic 88, 3) := by decide +kernel
theorem dX9_house_8 : decode cX9_house 8 = .ok (.ifCond .ne 6, 3) := by decide +kernel
theorem dX9_house_11 : decode cX9_house 11 = .ok (.bipush (-2), 2) := by decide +kernel
theorem dX9_house_13 : decode cX9_house 13 = .ok (.ireturn, 1) := by decide +kernel
theorem dX9_house_14 : decode cX9_house 14 = .ok (.iload_n 2, 1) := by decide +kernel
theorem dX9_house_15 : decode cX9_house 15 = .ok (.iconst 0, 1) := by decide +kernel
theorem dX9_house_16 : decode cX9_house 16 = .ok (.iconst 1, 1) := by decide +kernel
theorem dX9_house_17 : decode cX9_house 17 = .ok (.invokestatic 88, 3) := by decide +kernel
theorem dX9_house_20 : decode cX9_house 20 = .ok (.ifCond .ne 6, 3) := by decide +kernel
theorem dX9_house_23 : decode cX9_house 23 = .ok (.bipush (-7), 2) := by decide +kernel
theorem dX9_house_25 : decode cX9_house 25 = .ok (.ireturn, 1) := by decide +kernel
theorem dX9_house_26 : decode cX9_house 26 = .ok (.iconst (-1), 1) := by decide +kernel
theorem dX9_house_27 : decode cX9_house 27 = .ok (.istore_n 3, 1) := by decide +kernel
theorem dX9_house_28 : decode cX9_house 28 = .ok (.iconst (-1), 1) := by decide +kernel
theorem dX9_house_29 : decode cX9_house 29 = .ok (.istore 4, 2) := by decide +kernel
theorem dX9_house_31 : decode cX9_house 31 = .ok (.iconst 0, 1) := by decide +kernel
theorem dX9_house_32 : decode cX9_house 32 = .ok (.istore 5, 2) := by decide +kernel
theorem dX9_house_34 : decode cX9_house 34 = .ok (.iload 5, 2) := by decide +kernel
theorem dX9_house_36 : decode cX9_house 36 = .ok (.bipush 9, 2) := by decide +kernel
theorem dX9_house_38 : decode cX9_house 38 = .ok (.if_icmp .ge 43, 3) := by decide +kernel
theorem dX9_house_41 : decode cX9_house 41 = .ok (.aload_n 0, 1) := by decide +kernel
theorem dX9_house_42 : decode cX9_house 42 = .ok (.iload 5, 2) := by decide +kernel
theorem dX9_house_44 : decode cX9_house 44 = .ok (.iload_n 1, 1) := by decide +kernel
theorem dX9_house_45 : decode cX9_house 45 = .ok (.invokevirtual 285, 3) := by decide +kernel
theorem dX9_house_48 : decode cX9_house 48 = .ok (.istore 6, 2) := by decide +kernel
theorem dX9_house_50 : decode cX9_house 50 = .ok (.iload 6, 2) := by decide +kernel
theorem dX9_house_52 : decode cX9_house 52 = .ok (.iconst (-1), 1) := by decide +kernel
theorem dX9_house_53 : decode cX9_house 53 = .ok (.if_icmp .eq 22, 3) := by decide +kernel
theorem dX9_house_56 : decode cX9_house 56 = .ok (.iload_n 3, 1) := by decide +kernel
theorem dX9_house_57 : decode cX9_house 57 = .ok (.iconst (-1), 1) := by decide +kernel
theorem dX9_house_58 : decode cX9_house 58 = .ok (.if_icmp .eq 10, 3) := by decide +kernel
theorem dX9_house_61 : decode cX9_house 61 = .ok (.iload 6, 2) := by decide +kernel
theorem dX9_house_63 : decode cX9_house 63 = .ok (.iload 4, 2) := by decide +kernel
theorem dX9_house_65 : decode cX9_house 65 = .ok (.if_icmp .ge 10, 3) := by decide +kernel
theorem dX9_house_68 : decode cX9_house 68 = .ok (.iload 5, 2) := by decide +kernel
theorem dX9_house_70 : decode cX9_house 70 = .ok (.istore_n 3, 1) := by decide +kernel
theorem dX9_house_71 : decode cX9_house 71 = .ok (.iload 6, 2) := by decide +kernel
theorem dX9_house_73 : decode cX9_house 73 = .ok (.istore 4, 2) := by decide +kernel
theorem dX9_house_75 : decode cX9_house 75 = .ok (.iinc 5 1, 3) := by decide +kernel
theorem dX9_house_78 : decode cX9_house 78 = .ok (.goto (-44), 3) := by decide +kernel
theorem dX9_house_81 : decode cX9_house 81 = .ok (.iload_n 2, 1) := by decide +kernel
theorem dX9_house_82 : decode cX9_house 82 = .ok (.ifCond .ne 7, 3) := by decide +kernel
theorem dX9_house_85 : decode cX9_house 85 = .ok (.iload_n 3, 1) := by decide +kernel
theorem dX9_house_86 : decode cX9_house 86 = .ok (.goto 5, 3) := by decide +kernel
theorem dX9_house_89 : decode cX9_house 89 = .ok (.iload 4, 2) := by decide +kernel
theorem dX9_house_91 : decode cX9_house 91 = .ok (.ireturn, 1) := by decide +kernel
theorem dX9_lane_0 : decode cX9_lane 0 = .ok (.iload_n 1, 1) := by decide +kernel
theorem dX9_lane_1 : decode cX9_lane 1 = .ok (.iconst 1, 1) := by decide +kernel
theorem dX9_lane_2 : decode cX9_lane 2 = .ok (.bipush 99, 2) := by decide +kernel
theorem dX9_lane_4 : decode cX9_lane 4 = .ok (.invokestatic 88, 3) := by decide +kernel
theorem dX9_lane_7 : decode cX9_lane 7 = .ok (.ifCond .ne 6, 3) := by decide +kernel
theorem dX9_lane_10 : decode cX9_lane 10 = .ok (.bipush (-2), 2) := by decide +kernel
theorem dX9_lane_12 : decode cX9_lane 12 = .ok (.ireturn, 1) := by decide +kernel
theorem dX9_lane_13 : decode cX9_lane 13 = .ok (.iload_n 2, 1) := by decide +kernel
theorem dX9_lane_14 : decode cX9_lane 14 = .ok (.iconst 0, 1) := by decide +kernel
theorem dX9_lane_15 : decode cX9_lane 15 = .ok (.iconst 1, 1) := by decide +kernel
theorem dX9_lane_16 : decode cX9_lane 16 = .ok (.invokestatic 88, 3) := by decide +kernel
theorem dX9_lane_19 : decode cX9_lane 19 = .ok (.ifCond .ne 6, 3) := by decide +kernel
theorem dX9_lane_22 : decode cX9_lane 22 = .ok (.bipush (-7), 2) := by decide +kernel
theorem dX9_lane_24 : decode cX9_lane 24 = .ok (.ireturn, 1) := by decide +kernel
theorem dX9_lane_25 : decode cX9_lane 25 = .ok (.iconst (-1), 1) := by decide +kernel
theorem dX9_lane_26 : decode cX9_lane 26 = .ok (.istore_n 3, 1) := by decide +kernel
theorem dX9_lane_27 : decode cX9_lane 27 = .ok (.aload_n 0, 1) := by decide +kernel
theorem dX9_lane_28 : decode cX9_lane 28 = .ok (.invokevirtual 279, 3) := by decide +kernel
theorem dX9_lane_31 : decode cX9_lane 31 = .ok (.invokestatic 288, 3) := by decide +kernel
theorem dX9_lane_34 : decode cX9_lane 34 = .ok (.istore 4, 2) := by decide +kernel
theorem dX9_lane_36 : decode cX9_lane 36 = .ok (.iconst 0, 1) := by decide +kernel
theorem dX9_lane_37 : decode cX9_lane 37 = .ok (.istore 5, 2) := by decide +kernel
theorem dX9_lane_39 : decode cX9_lane 39 = .ok (.iload 5, 2) := by decide +kernel
theorem dX9_lane_41 : decode cX9_lane 41 = .ok (.bipush 9, 2) := by decide +kernel
theorem dX9_lane_43 : decode cX9_lane 43 = .ok (.if_icmp .ge 125, 3) := by decide +kernel
theorem dX9_lane_46 : decode cX9_lane 46 = .ok (.iload 5, 2) := by decide +kernel
theorem dX9_lane_48 : decode cX9_lane 48 = .ok (.iconst 1, 1) := by decide +kernel
theorem dX9_lane_49 : decode cX9_lane 49 = .ok (.iadd, 1) := by decide +kernel
theorem dX9_lane_50 : decode cX9_lane 50 = .ok (.istore 6, 2) := by decide +kernel
theorem dX9_lane_52 : decode cX9_lane 52 = .ok (.iload 6, 2) := by decide +kernel
theorem dX9_lane_54 : decode cX9_lane 54 = .ok (.bipush 9, 2) := by decide +kernel
theorem dX9_lane_56 : decode cX9_lane 56 = .ok (.if_icmp .ge 106, 3) := by decide +kernel
theorem dX9_lane_59 : decode cX9_lane 59 = .ok (.aload_n 0, 1) := by decide +kernel
theorem dX9_lane_60 : decode cX9_lane 60 = .ok (.getfield 13, 3) := by decide +kernel
theorem dX9_lane_63 : decode cX9_lane 63 = .ok (.aload_n 0, 1) := by decide +kernel
theorem dX9_lane_64 : decode cX9_lane 64 = .ok (.getfield 92, 3) := by decide +kernel
theorem dX9_lane_67 : decode cX9_lane 67 = .ok (.iconst 0, 1) := by decide +kernel
theorem dX9_lane_68 : decode cX9_lane 68 = .ok (.iastore, 1) := by decide +kernel
theorem dX9_lane_69 : decode cX9_lane 69 = .ok (.aload_n 0, 1) := by decide +kernel
theorem dX9_lane_70 : decode cX9_lane 70 = .ok (.getfield 17, 3) := by decide +kernel
theorem dX9_lane_73 : decode cX9_lane 73 = .ok (.aload_n 0, 1) := by decide +kernel
theorem dX9_lane_74 : decode cX9_lane 74 = .ok (.getfield 92, 3) := by decide +kernel
theorem dX9_lane_77 : decode cX9_lane 77 = .ok (.iload 5, 2) := by decide +kernel
theorem dX9_lane_79 : decode cX9_lane 79 = .ok (.iastore, 1) := by decide +kernel
theorem dX9_lane_80 : decode cX9_lane 80 = .ok (.aload_n 0, 1) := by decide +kernel
theorem dX9_lane_81 : decode cX9_lane 81 = .ok (.getfield 20, 3) := by decide +kernel
theorem dX9_lane_84 : decode cX9_lane 84 = .ok (.aload_n 0, 1) := by decide +kernel
theorem dX9_lane_85 : decode cX9_lane 85 = .ok (.getfield 92, 3) := by decide +kernel
theorem dX9_lane_88 : decode cX9_lane 88 = .ok (.iload 6, 2) := by decide +kernel
theorem dX9_lane_90 : decode cX9_lane 90 = .ok (.iastore, 1) := by decide +kernel
theorem dX9_lane_91 : decode cX9_lane 91 = .ok (.aload_n 0, 1) := by decide +kernel
theorem dX9_lane_92 : decode cX9_lane 92 = .ok (.getfield 23, 3) := by decide +kernel
theorem dX9_lane_95 : decode cX9_lane 95 = .ok (.aload_n 0, 1) := by decide +kernel
theorem dX9_lane_96 : decode cX9_lane 96 = .ok (.getfield 92, 3) := by decide +kernel
theorem dX9_lane_99 : decode cX9_lane 99 = .ok (.iload_n 1, 1) := by decide +kernel
theorem dX9_lane_100 : decode cX9_lane 100 = .ok (.iastore, 1) := by decide +kernel
theorem dX9_lane_101 : decode cX9_lane 101 = .ok (.aload_n 0, 1) := by decide +kernel
theorem dX9_lane_102 : decode cX9_lane 102 = .ok (.iconst 1, 1) := by decide +kernel
theorem dX9_lane_103 : decode cX9_lane 103 = .ok (.invokevirtual 241, 3) := by decide +kernel
theorem dX9_lane_106 : decode cX9_lane 106 = .ok (.aload_n 0, 1) := by decide +kernel
theorem dX9_lane_107 : decode cX9_lane 107 = .ok (.invokevirtual 267, 3) := by decide +kernel
theorem dX9_lane_110 : decode cX9_lane 110 = .ok (.aload_n 0, 1) := by decide +kernel
theorem dX9_lane_111 : decode cX9_lane 111 = .ok (.iconst 0, 1) := by decide +kernel
theorem dX9_lane_112 : decode cX9_lane 112 = .ok (.invokevirtual 276, 3) := by decide +kernel
theorem dX9_lane_115 : decode cX9_lane 115 = .ok (.invokestatic 288, 3) := by decide +kernel
theorem dX9_lane_118 : decode cX9_lane 118 = .ok (.istore 7, 2) := by decide +kernel
theorem dX9_lane_120 : decode cX9_lane 120 = .ok (.iload 7, 2) := by decide +kernel
theorem dX9_lane_122 : decode cX9_lane 122 = .ok (.iload 4, 2) := by decide +kernel
theorem dX9_lane_124 : decode cX9_lane 124 = .ok (.if_icmp .le 14, 3) := by decide +kernel
theorem dX9_lane_127 : decode cX9_lane 127 = .ok (.bipush 10, 2) := by decide +kernel
theorem dX9_lane_129 : decode cX9_lane 129 = .ok (.iload 5, 2) := by decide +kernel
theorem dX9_lane_131 : decode cX9_lane 131 = .ok (.imul, 1) := by decide +kernel
theorem dX9_lane_132 : decode cX9_lane 132 = .ok (.iload 6, 2) := by decide +kernel
theorem dX9_lane_134 : decode cX9_lane 134 = .ok (.iadd, 1) := by decide +kernel
theorem dX9_lane_135 : decode cX9_lane 135 = .ok (.goto 4, 3) := by decide +kernel
theorem dX9_lane_138 : decode cX9_lane 138 = .ok (.iload_n 3, 1) := by decide +kernel
theorem dX9_lane_139 : decode cX9_lane 139 = .ok (.istore_n 3, 1) := by decide +kernel
theorem dX9_lane_140 : decode cX9_lane 140 = .ok (.iload 7, 2) := by decide +kernel
theorem dX9_lane_142 : decode cX9_lane 142 = .ok (.iload 4, 2) := by decide +kernel
theorem dX9_lane_144 : decode cX9_lane 144 = .ok (.if_icmp .le 8, 3) := by decide +kernel
theorem dX9_lane_147 : decode cX9_lane 147 = .ok (.iload 7, 2) := by decide +kernel
theorem dX9_lane_149 : decode cX9_lane 149 = .ok (.goto 5, 3) := by decide +kernel
theorem dX9_lane_152 : decode cX9_lane 152 = .ok (.iload 4, 2) := by decide +kernel
theorem dX9_lane_154 : decode cX9_lane 154 = .ok (.istore 4, 2) := by decide +kernel
theorem dX9_lane_156 : decode cX9_lane 156 = .ok (.iinc 6 1, 3) := by decide +kernel
theorem dX9_lane_159 : decode cX9_lane 159 = .ok (.goto (-107), 3) := by decide +kernel
theorem dX9_lane_162 : decode cX9_lane 162 = .ok (.iinc 5 1, 3) := by decide +kernel
theorem dX9_lane_165 : decode cX9_lane 165 = .ok (.goto (-126), 3) := by decide +kernel
theorem dX9_lane_168 : decode cX9_lane 168 = .ok (.iload_n 2, 1) := by decide +kernel
theorem dX9_lane_169 : decode cX9_lane 169 = .ok (.ifCond .ne 7, 3) := by decide +kernel
theorem dX9_lane_172 : decode cX9_lane 172 = .ok (.iload_n 3, 1) := by decide +kernel
theorem dX9_lane_173 : decode cX9_lane 173 = .ok (.goto 5, 3) := by decide +kernel
theorem dX9_lane_176 : decode cX9_lane 176 = .ok (.iload 4, 2) := by decide +kernel
theorem dX9_lane_178 : decode cX9_lane 178 = .ok (.ireturn, 1) := by decide +kernel
theorem dX9_joinedTo_0 : decode cX9_joinedTo 0 = .ok (.iconst 1, 1) := by decide +kernel
theorem dX9_joinedTo_1 : decode cX9_joinedTo 1 = .ok (.iload_n 1, 1) := by decide +kernel
theorem dX9_joinedTo_2 : decode cX9_joinedTo 2 = .ok (.ishl, 1) := by decide +kernel
theorem dX9_joinedTo_3 : decode cX9_joinedTo 3 = .ok (.istore_n 3, 1) := by decide +kernel
theorem dX9_joinedTo_4 : decode cX9_joinedTo 4 = .ok (.iconst 0, 1) := by decide +kernel
theorem dX9_joinedTo_5 : decode cX9_joinedTo 5 = .ok (.istore 4, 2) := by decide +kernel
theorem dX9_joinedTo_7 : decode cX9_joinedTo 7 = .ok (.iload 4, 2) := by decide +kernel
theorem dX9_joinedTo_9 : decode cX9_joinedTo 9 = .ok (.bipush 9, 2) := by decide +kernel
theorem dX9_joinedTo_11 : decode cX9_joinedTo 11 = .ok (.if_icmp .ge 99, 3) := by decide +kernel
theorem dX9_joinedTo_14 : decode cX9_joinedTo 14 = .ok (.iconst 0, 1) := by decide +kernel
theorem dX9_joinedTo_15 : decode cX9_joinedTo 15 = .ok (.istore 5, 2) := by decide +kernel
theorem dX9_joinedTo_17 : decode cX9_joinedTo 17 = .ok (.iload 5, 2) := by decide +kernel
theorem dX9_joinedTo_19 : decode cX9_joinedTo 19 = .ok (.aload_n 0, 1) := by decide +kernel
theorem dX9_joinedTo_20 : decode cX9_joinedTo 20 = .ok (.getfield 92, 3) := by decide +kernel
theorem dX9_joinedTo_23 : decode cX9_joinedTo 23 = .ok (.if_icmp .ge 81, 3) := by decide +kernel
theorem dX9_joinedTo_26 : decode cX9_joinedTo 26 = .ok (.iload_n 2, 1) := by decide +kernel
theorem dX9_joinedTo_27 : decode cX9_joinedTo 27 = .ok (.iload 5, 2) := by decide +kernel
theorem dX9_joinedTo_29 : decode cX9_joinedTo 29 = .ok (.ishr, 1) := by decide +kernel
theorem dX9_joinedTo_30 : decode cX9_joinedTo 30 = .ok (.iconst 1, 1) := by decide +kernel
theorem dX9_joinedTo_31 : decode cX9_joinedTo 31 = .ok (.iand, 1) := by decide +kernel
theorem dX9_joinedTo_32 : decode cX9_joinedTo 32 = .ok (.ifCond .ne 32, 3) := by decide +kernel
theorem dX9_joinedTo_35 : decode cX9_joinedTo 35 = .ok (.iload_n 3, 1) := by decide +kernel
theorem dX9_joinedTo_36 : decode cX9_joinedTo 36 = .ok (.aload_n 0, 1) := by decide +kernel
theorem dX9_joinedTo_37 : decode cX9_joinedTo 37 = .ok (.getfield 17, 3) := by decide +kernel
theorem dX9_joinedTo_40 : decode cX9_joinedTo 40 = .ok (.iload 5, 2) := by decide +kernel
theorem dX9_joinedTo_42 : decode cX9_joinedTo 42 = .ok (.iaload, 1) := by decide +kernel
theorem dX9_joinedTo_43 : decode cX9_joinedTo 43 = .ok (.ishr, 1) := by decide +kernel
theorem dX9_joinedTo_44 : decode cX9_joinedTo 44 = .ok (.iload_n 3, 1) := by decide +kernel
theorem dX9_joinedTo_45 : decode cX9_joinedTo 45 = .ok (.aload_n 0, 1) := by decide +kernel
theorem dX9_joinedTo_46 : decode cX9_joinedTo 46 = .ok (.getfield 20, 3) := by decide +kernel
theorem dX9_joinedTo_49 : decode cX9_joinedTo 49 = .ok (.iload 5, 2) := by decide +kernel
theorem dX9_joinedTo_51 : decode cX9_joinedTo 51 = .ok (.iaload, 1) := by decide +kernel
theorem dX9_joinedTo_52 : decode cX9_joinedTo 52 = .ok (.ishr, 1) := by decide +kernel
theorem dX9_joinedTo_53 : decode cX9_joinedTo 53 = .ok (.ior, 1) := by decide +kernel
theorem dX9_joinedTo_54 : decode cX9_joinedTo 54 = .ok (.iconst 1, 1) := by decide +kernel
theorem dX9_joinedTo_55 : decode cX9_joinedTo 55 = .ok (.iand, 1) := by decide +kernel
theorem dX9_joinedTo_56 : decode cX9_joinedTo 56 = .ok (.iconst 1, 1) := by decide +kernel
theorem dX9_joinedTo_57 : decode cX9_joinedTo 57 = .ok (.if_icmp .ne 7, 3) := by decide +kernel
theorem dX9_joinedTo_60 : decode cX9_joinedTo 60 = .ok (.iconst 1, 1) := by decide +kernel
theorem dX9_joinedTo_61 : decode cX9_joinedTo 61 = .ok (.goto 4, 3) := by decide +kernel
theorem dX9_joinedTo_64 : decode cX9_joinedTo 64 = .ok (.iconst 0, 1) := by decide +kernel
theorem dX9_joinedTo_65 : decode cX9_joinedTo 65 = .ok (.istore 6, 2) := by decide +kernel
theorem dX9_joinedTo_67 : decode cX9_joinedTo 67 = .ok (.iload_n 3, 1) := by decide +kernel
theorem dX9_joinedTo_68 : decode cX9_joinedTo 68 = .ok (.iload 6, 2) := by decide +kernel
theorem dX9_joinedTo_70 : decode cX9_joinedTo 70 = .ok (.ifCond .eq 25, 3) := by decide +kernel
theorem dX9_joinedTo_73 : decode cX9_joinedTo 73 = .ok (.iconst 1, 1) := by decide +kernel
theorem dX9_joinedTo_74 : decode cX9_joinedTo 74 = .ok (.aload_n 0, 1) := by decide +kernel
theorem dX9_joinedTo_75 : decode cX9_joinedTo 75 = .ok (.getfield 17, 3) := by decide +kernel
theorem dX9_joinedTo_78 : decode cX9_joinedTo 78 = .ok (.iload 5, 2) := by decide +kernel
theorem dX9_joinedTo_80 : decode cX9_joinedTo 80 = .ok (.iaload, 1) := by decide +kernel
theorem dX9_joinedTo_81 : decode cX9_joinedTo 81 = .ok (.ishl, 1) := by decide +kernel
theorem dX9_joinedTo_82 : decode cX9_joinedTo 82 = .ok (.iconst 1, 1) := by decide +kernel
theorem dX9_joinedTo_83 : decode cX9_joinedTo 83 = .ok (.aload_n 0, 1) := by decide +kernel
theorem dX9_joinedTo_84 : decode cX9_joinedTo 84 = .ok (.getfield 20, 3) := by decide +kernel
theorem dX9_joinedTo_87 : decode cX9_joinedTo 87 = .ok (.iload 5, 2) := by decide +kernel
theorem dX9_joinedTo_89 : decode cX9_joinedTo 89 = .ok (.iaload, 1) := by decide +kernel
theorem dX9_joinedTo_90 : decode cX9_joinedTo 90 = .ok (.ishl, 1) := by decide +kernel
theorem dX9_joinedTo_91 : decode cX9_joinedTo 91 = .ok (.ior, 1) := by decide +kernel
theorem dX9_joinedTo_92 : decode cX9_joinedTo 92 = .ok (.goto 4, 3) := by decide +kernel
theorem dX9_joinedTo_95 : decode cX9_joinedTo 95 = .ok (.iconst 0, 1) := by decide +kernel
theorem dX9_joinedTo_96 : decode cX9_joinedTo 96 = .ok (.ior, 1) := by decide +kernel
theorem dX9_joinedTo_97 : decode cX9_joinedTo 97 = .ok (.istore_n 3, 1) := by decide +kernel
theorem dX9_joinedTo_98 : decode cX9_joinedTo 98 = .ok (.iinc 5 1, 3) := by decide +kernel
theorem dX9_joinedTo_101 : decode cX9_joinedTo 101 = .ok (.goto (-84), 3) := by decide +kernel
theorem dX9_joinedTo_104 : decode cX9_joinedTo 104 = .ok (.iinc 4 1, 3) := by decide +kernel
theorem dX9_joinedTo_107 : decode cX9_joinedTo 107 = .ok (.goto (-100), 3) := by decide +kernel
theorem dX9_joinedTo_110 : decode cX9_joinedTo 110 = .ok (.iload_n 3, 1) := by decide +kernel
theorem dX9_joinedTo_111 : decode cX9_joinedTo 111 = .ok (.ireturn, 1) := by decide +kernel
theorem dX9_bonds_0 : decode cX9_bonds 0 = .ok (.iconst 0, 1) := by decide +kernel
theorem dX9_bonds_1 : decode cX9_bonds 1 = .ok (.istore_n 1, 1) := by decide +kernel
theorem dX9_bonds_2 : decode cX9_bonds 2 = .ok (.iconst 0, 1) := by decide +kernel
theorem dX9_bonds_3 : decode cX9_bonds 3 = .ok (.istore_n 2, 1) := by decide +kernel
theorem dX9_bonds_4 : decode cX9_bonds 4 = .ok (.iload_n 2, 1) := by decide +kernel
theorem dX9_bonds_5 : decode cX9_bonds 5 = .ok (.aload_n 0, 1) := by decide +kernel
theorem dX9_bonds_6 : decode cX9_bonds 6 = .ok (.getfield 92, 3) := by decide +kernel
theorem dX9_bonds_9 : decode cX9_bonds 9 = .ok (.if_icmp .ge 44, 3) := by decide +kernel
theorem dX9_bonds_12 : decode cX9_bonds 12 = .ok (.iload_n 1, 1) := by decide +kernel
theorem dX9_bonds_13 : decode cX9_bonds 13 = .ok (.aload_n 0, 1) := by decide +kernel
theorem dX9_bonds_14 : decode cX9_bonds 14 = .ok (.aload_n 0, 1) := by decide +kernel
theorem dX9_bonds_15 : decode cX9_bonds 15 = .ok (.getfield 17, 3) := by decide +kernel
theorem dX9_bonds_18 : decode cX9_bonds 18 = .ok (.iload_n 2, 1) := by decide +kernel
theorem dX9_bonds_19 : decode cX9_bonds 19 = .ok (.iaload, 1) := by decide +kernel
theorem dX9_bonds_20 : decode cX9_bonds 20 = .ok (.iconst 1, 1) := by decide +kernel
theorem dX9_bonds_21 : decode cX9_bonds 21 = .ok (.iload_n 2, 1) := by decide +kernel
theorem dX9_bonds_22 : decode cX9_bonds 22 = .ok (.ishl, 1) := by decide +kernel
theorem dX9_bonds_23 : decode cX9_bonds 23 = .ok (.invokevirtual 291, 3) := by decide +kernel
theorem dX9_bonds_26 : decode cX9_bonds 26 = .ok (.aload_n 0, 1) := by decide +kernel
theorem dX9_bonds_27 : decode cX9_bonds 27 = .ok (.getfield 20, 3) := by decide +kernel
theorem dX9_bonds_30 : decode cX9_bonds 30 = .ok (.iload_n 2, 1) := by decide +kernel
theorem dX9_bonds_31 : decode cX9_bonds 31 = .ok (.iaload, 1) := by decide +kernel
theorem dX9_bonds_32 : decode cX9_bonds 32 = .ok (.ishr, 1) := by decide +kernel
theorem dX9_bonds_33 : decode cX9_bonds 33 = .ok (.iconst 1, 1) := by decide +kernel
theorem dX9_bonds_34 : decode cX9_bonds 34 = .ok (.iand, 1) := by decide +kernel
theorem dX9_bonds_35 : decode cX9_bonds 35 = .ok (.ifCond .ne 9, 3) := by decide +kernel
theorem dX9_bonds_38 : decode cX9_bonds 38 = .ok (.iconst 1, 1) := by decide +kernel
theorem dX9_bonds_39 : decode cX9_bonds 39 = .ok (.iload_n 2, 1) := by decide +kernel
theorem dX9_bonds_40 : decode cX9_bonds 40 = .ok (.ishl, 1) := by decide +kernel
theorem dX9_bonds_41 : decode cX9_bonds 41 = .ok (.goto 4, 3) := by decide +kernel
theorem dX9_bonds_44 : decode cX9_bonds 44 = .ok (.iconst 0, 1) := by decide +kernel
theorem dX9_bonds_45 : decode cX9_bonds 45 = .ok (.ior, 1) := by decide +kernel
theorem dX9_bonds_46 : decode cX9_bonds 46 = .ok (.istore_n 1, 1) := by decide +kernel
theorem dX9_bonds_47 : decode cX9_bonds 47 = .ok (.iinc 2 1, 3) := by decide +kernel
theorem dX9_bonds_50 : decode cX9_bonds 50 = .ok (.goto (-46), 3) := by decide +kernel
theorem dX9_bonds_53 : decode cX9_bonds 53 = .ok (.iload_n 1, 1) := by decide +kernel
theorem dX9_bonds_54 : decode cX9_bonds 54 = .ok (.ireturn, 1) := by decide +kernel
theorem dX9_built_0 : decode cX9_built 0 = .ok (.iconst 0, 1) := by decide +kernel
theorem dX9_built_1 : decode cX9_built 1 = .ok (.istore_n 1, 1) := by decide +kernel
theorem dX9_built_2 : decode cX9_built 2 = .ok (.iconst 0, 1) := by decide +kernel
theorem dX9_built_3 : decode cX9_built 3 = .ok (.istore_n 2, 1) := by decide +kernel
theorem dX9_built_4 : decode cX9_built 4 = .ok (.iload_n 2, 1) := by decide +kernel
theorem dX9_built_5 : decode cX9_built 5 = .ok (.aload_n 0, 1) := by decide +kernel
theorem dX9_built_6 : decode cX9_built 6 = .ok (.getfield 92, 3) := by decide +kernel
theorem dX9_built_9 : decode cX9_built 9 = .ok (.if_icmp .ge 29, 3) := by decide +kernel
theorem dX9_built_12 : decode cX9_built 12 = .ok (.iload_n 1, 1) := by decide +kernel
theorem dX9_built_13 : decode cX9_built 13 = .ok (.iconst 1, 1) := by decide +kernel
theorem dX9_built_14 : decode cX9_built 14 = .ok (.aload_n 0, 1) := by decide +kernel
theorem dX9_built_15 : decode cX9_built 15 = .ok (.getfield 17, 3) := by decide +kernel
theorem dX9_built_18 : decode cX9_built 18 = .ok (.iload_n 2, 1) := by decide +kernel
theorem dX9_built_19 : decode cX9_built 19 = .ok (.iaload, 1) := by decide +kernel
theorem dX9_built_20 : decode cX9_built 20 = .ok (.ishl, 1) := by decide +kernel
theorem dX9_built_21 : decode cX9_built 21 = .ok (.iconst 1, 1) := by decide +kernel
theorem dX9_built_22 : decode cX9_built 22 = .ok (.aload_n 0, 1) := by decide +kernel
theorem dX9_built_23 : decode cX9_built 23 = .ok (.getfield 20, 3) := by decide +kernel
theorem dX9_built_26 : decode cX9_built 26 = .ok (.iload_n 2, 1) := by decide +kernel
theorem dX9_built_27 : decode cX9_built 27 = .ok (.iaload, 1) := by decide +kernel
theorem dX9_built_28 : decode cX9_built 28 = .ok (.ishl, 1) := by decide +kernel
theorem dX9_built_29 : decode cX9_built 29 = .ok (.ior, 1) := by decide +kernel
theorem dX9_built_30 : decode cX9_built 30 = .ok (.ior, 1) := by decide +kernel
theorem dX9_built_31 : decode cX9_built 31 = .ok (.istore_n 1, 1) := by decide +kernel
theorem dX9_built_32 : decode cX9_built 32 = .ok (.iinc 2 1, 3) := by decide +kernel
theorem dX9_built_35 : decode cX9_built 35 = .ok (.goto (-31), 3) := by decide +kernel
theorem dX9_built_38 : decode cX9_built 38 = .ok (.iload_n 1, 1) := by decide +kernel
theorem dX9_built_39 : decode cX9_built 39 = .ok (.ireturn, 1) := by decide +kernel
theorem dX9_bondsAt_0 : decode cX9_bondsAt 0 = .ok (.iconst 0, 1) := by decide +kernel
theorem dX9_bondsAt_1 : decode cX9_bondsAt 1 = .ok (.istore_n 3, 1) := by decide +kernel
theorem dX9_bondsAt_2 : decode cX9_bondsAt 2 = .ok (.iconst 0, 1) := by decide +kernel
theorem dX9_bondsAt_3 : decode cX9_bondsAt 3 = .ok (.istore 4, 2) := by decide +kernel
theorem dX9_bondsAt_5 : decode cX9_bondsAt 5 = .ok (.iload 4, 2) := by decide +kernel
theorem dX9_bondsAt_7 : decode cX9_bondsAt 7 = .ok (.aload_n 0, 1) := by decide +kernel
theorem dX9_bondsAt_8 : decode cX9_bondsAt 8 = .ok (.getfield 92, 3) := by decide +kernel
theorem dX9_bondsAt_11 : decode cX9_bondsAt 11 = .ok (.if_icmp .ge 49, 3) := by decide +kernel
theorem dX9_bondsAt_14 : decode cX9_bondsAt 14 = .ok (.iload_n 3, 1) := by decide +kernel
theorem dX9_bondsAt_15 : decode cX9_bondsAt 15 = .ok (.iload_n 2, 1) := by decide +kernel
theorem dX9_bondsAt_16 : decode cX9_bondsAt 16 = .ok (.iload 4, 2) := by decide +kernel
theorem dX9_bondsAt_18 : decode cX9_bondsAt 18 = .ok (.ishr, 1) := by decide +kernel
theorem dX9_bondsAt_19 : decode cX9_bondsAt 19 = .ok (.iconst 1, 1) := by decide +kernel
theorem dX9_bondsAt_20 : decode cX9_bondsAt 20 = .ok (.iand, 1) := by decide +kernel
theorem dX9_bondsAt_21 : decode cX9_bondsAt 21 = .ok (.iconst 1, 1) := by decide +kernel
theorem dX9_bondsAt_22 : decode cX9_bondsAt 22 = .ok (.if_icmp .ne 29, 3) := by decide +kernel
theorem dX9_bondsAt_25 : decode cX9_bondsAt 25 = .ok (.iload_n 1, 1) := by decide +kernel
theorem dX9_bondsAt_26 : decode cX9_bondsAt 26 = .ok (.aload_n 0, 1) := by decide +kernel
theorem dX9_bondsAt_27 : decode cX9_bondsAt 27 = .ok (.getfield 17, 3) := by decide +kernel
theorem dX9_bondsAt_30 : decode cX9_bondsAt 30 = .ok (.iload 4, 2) := by decide +kernel
theorem dX9_bondsAt_32 : decode cX9_bondsAt 32 = .ok (.iaload, 1) := by decide +kernel
theorem dX9_bondsAt_33 : decode cX9_bondsAt 33 = .ok (.ishr, 1) := by decide +kernel
theorem dX9_bondsAt_34 : decode cX9_bondsAt 34 = .ok (.iconst 1, 1) := by decide +kernel
theorem dX9_bondsAt_35 : decode cX9_bondsAt 35 = .ok (.iand, 1) := by decide +kernel
theorem dX9_bondsAt_36 : decode cX9_bondsAt 36 = .ok (.iload_n 1, 1) := by decide +kernel
theorem dX9_bondsAt_37 : decode cX9_bondsAt 37 = .ok (.aload_n 0, 1) := by decide +kernel
theorem dX9_bondsAt_38 : decode cX9_bondsAt 38 = .ok (.getfield 20, 3) := by decide +kernel
theorem dX9_bondsAt_41 : decode cX9_bondsAt 41 = .ok (.iload 4, 2) := by decide +kernel
theorem dX9_bondsAt_43 : decode cX9_bondsAt 43 = .ok (.iaload, 1) := by decide +kernel
theorem dX9_bondsAt_44 : decode cX9_bondsAt 44 = .ok (.ishr, 1) := by decide +kernel
theorem dX9_bondsAt_45 : decode cX9_bondsAt 45 = .ok (.iconst 1, 1) := by decide +kernel
theorem dX9_bondsAt_46 : decode cX9_bondsAt 46 = .ok (.iand, 1) := by decide +kernel
theorem dX9_bondsAt_47 : decode cX9_bondsAt 47 = .ok (.iadd, 1) := by decide +kernel
theorem dX9_bondsAt_48 : decode cX9_bondsAt 48 = .ok (.goto 4, 3) := by decide +kernel
theorem dX9_bondsAt_51 : decode cX9_bondsAt 51 = .ok (.iconst 0, 1) := by decide +kernel
theorem dX9_bondsAt_52 : decode cX9_bondsAt 52 = .ok (.iadd, 1) := by decide +kernel
theorem dX9_bondsAt_53 : decode cX9_bondsAt 53 = .ok (.istore_n 3, 1) := by decide +kernel
theorem dX9_bondsAt_54 : decode cX9_bondsAt 54 = .ok (.iinc 4 1, 3) := by decide +kernel
theorem dX9_bondsAt_57 : decode cX9_bondsAt 57 = .ok (.goto (-52), 3) := by decide +kernel
theorem dX9_bondsAt_60 : decode cX9_bondsAt 60 = .ok (.iload_n 3, 1) := by decide +kernel
theorem dX9_bondsAt_61 : decode cX9_bondsAt 61 = .ok (.ireturn, 1) := by decide +kernel
theorem dX9_newly_0 : decode cX9_newly 0 = .ok (.aload_n 0, 1) := by decide +kernel
theorem dX9_newly_1 : decode cX9_newly 1 = .ok (.invokevirtual 294, 3) := by decide +kernel
theorem dX9_newly_4 : decode cX9_newly 4 = .ok (.istore_n 1, 1) := by decide +kernel
theorem dX9_newly_5 : decode cX9_newly 5 = .ok (.aload_n 0, 1) := by decide +kernel
theorem dX9_newly_6 : decode cX9_newly 6 = .ok (.invokevirtual 297, 3) := by decide +kernel
theorem dX9_newly_9 : decode cX9_newly 9 = .ok (.istore_n 2, 1) := by decide +kernel
theorem dX9_newly_10 : decode cX9_newly 10 = .ok (.iconst 0, 1) := by decide +kernel
theorem dX9_newly_11 : decode cX9_newly 11 = .ok (.istore_n 3, 1) := by decide +kernel
theorem dX9_newly_12 : decode cX9_newly 12 = .ok (.iconst 0, 1) := by decide +kernel
theorem dX9_newly_13 : decode cX9_newly 13 = .ok (.istore 4, 2) := by decide +kernel
theorem dX9_newly_15 : decode cX9_newly 15 = .ok (.iconst 0, 1) := by decide +kernel
theorem dX9_newly_16 : decode cX9_newly 16 = .ok (.istore 5, 2) := by decide +kernel
theorem dX9_newly_18 : decode cX9_newly 18 = .ok (.iconst 0, 1) := by decide +kernel
theorem dX9_newly_19 : decode cX9_newly 19 = .ok (.istore 6, 2) := by decide +kernel
theorem dX9_newly_21 : decode cX9_newly 21 = .ok (.iconst 0, 1) := by decide +kernel
theorem dX9_newly_22 : decode cX9_newly 22 = .ok (.istore 7, 2) := by decide +kernel
theorem dX9_newly_24 : decode cX9_newly 24 = .ok (.iload 7, 2) := by decide +kernel
theorem dX9_newly_26 : decode cX9_newly 26 = .ok (.bipush 9, 2) := by decide +kernel
theorem dX9_newly_28 : decode cX9_newly 28 = .ok (.if_icmp .ge 89, 3) := by decide +kernel
theorem dX9_newly_31 : decode cX9_newly 31 = .ok (.iload_n 2, 1) := by decide +kernel
theorem dX9_newly_32 : decode cX9_newly 32 = .ok (.iload 7, 2) := by decide +kernel
theorem dX9_newly_34 : decode cX9_newly 34 = .ok (.ishr, 1) := by decide +kernel
theorem dX9_newly_35 : decode cX9_newly 35 = .ok (.iconst 1, 1) := by decide +kernel
theorem dX9_newly_36 : decode cX9_newly 36 = .ok (.iand, 1) := by decide +kernel
theorem dX9_newly_37 : decode cX9_newly 37 = .ok (.iconst 1, 1) := by decide +kernel
theorem dX9_newly_38 : decode cX9_newly 38 = .ok (.if_icmp .ne 73, 3) := by decide +kernel
theorem dX9_newly_41 : decode cX9_newly 41 = .ok (.iload 6, 2) := by decide +kernel
theorem dX9_newly_43 : decode cX9_newly 43 = .ok (.iload 7, 2) := by decide +kernel
theorem dX9_newly_45 : decode cX9_newly 45 = .ok (.ishr, 1) := by decide +kernel
theorem dX9_newly_46 : decode cX9_newly 46 = .ok (.iconst 1, 1) := by decide +kernel
theorem dX9_newly_47 : decode cX9_newly 47 = .ok (.iand, 1) := by decide +kernel
theorem dX9_newly_48 : decode cX9_newly 48 = .ok (.ifCond .ne 63, 3) := by decide +kernel
theorem dX9_newly_51 : decode cX9_newly 51 = .ok (.aload_n 0, 1) := by decide +kernel
theorem dX9_newly_52 : decode cX9_newly 52 = .ok (.iload 7, 2) := by decide +kernel
theorem dX9_newly_54 : decode cX9_newly 54 = .ok (.iload_n 1, 1) := by decide +kernel
theorem dX9_newly_55 : decode cX9_newly 55 = .ok (.invokevirtual 291, 3) := by decide +kernel
theorem dX9_newly_58 : decode cX9_newly 58 = .ok (.istore 8, 2) := by decide +kernel
theorem dX9_newly_60 : decode cX9_newly 60 = .ok (.iload 6, 2) := by decide +kernel
theorem dX9_newly_62 : decode cX9_newly 62 = .ok (.iload 8, 2) := by decide +kernel
theorem dX9_newly_64 : decode cX9_newly 64 = .ok (.ior, 1) := by decide +kernel
theorem dX9_newly_65 : decode cX9_newly 65 = .ok (.istore 6, 2) := by decide +kernel
theorem dX9_newly_67 : decode cX9_newly 67 = .ok (.iinc 3 1, 3) := by decide +kernel
theorem dX9_newly_70 : decode cX9_newly 70 = .ok (.iload 4, 2) := by decide +kernel
theorem dX9_newly_72 : decode cX9_newly 72 = .ok (.aload_n 0, 1) := by decide +kernel
theorem dX9_newly_73 : decode cX9_newly 73 = .ok (.iload 8, 2) := by decide +kernel
theorem dX9_newly_75 : decode cX9_newly 75 = .ok (.iload_n 1, 1) := by decide +kernel
theorem dX9_newly_76 : decode cX9_newly 76 = .ok (.invokevirtual 300, 3) := by decide +kernel
theorem dX9_newly_79 : decode cX9_newly 79 = .ok (.ifCond .ne 7, 3) := by decide +kernel
theorem dX9_newly_82 : decode cX9_newly 82 = .ok (.iconst 1, 1) := by decide +kernel
theorem dX9_newly_83 : decode cX9_newly 83 = .ok (.goto 4, 3) := by decide +kernel
theorem dX9_newly_86 : decode cX9_newly 86 = .ok (.iconst 0, 1) := by decide +kernel
theorem dX9_newly_87 : decode cX9_newly 87 = .ok (.iadd, 1) := by decide +kernel
theorem dX9_newly_88 : decode cX9_newly 88 = .ok (.istore 4, 2) := by decide +kernel
theorem dX9_newly_90 : decode cX9_newly 90 = .ok (.iload 5, 2) := by decide +kernel
theorem dX9_newly_92 : decode cX9_newly 92 = .ok (.aload_n 0, 1) := by decide +kernel
theorem dX9_newly_93 : decode cX9_newly 93 = .ok (.iload 8, 2) := by decide +kernel
theorem dX9_newly_95 : decode cX9_newly 95 = .ok (.iload_n 1, 1) := by decide +kernel
theorem dX9_newly_96 : decode cX9_newly 96 = .ok (.invokevirtual 300, 3) := by decide +kernel
theorem dX9_newly_99 : decode cX9_newly 99 = .ok (.iconst 1, 1) := by decide +kernel
theorem dX9_newly_100 : decode cX9_newly 100 = .ok (.if_icmp .ne 7, 3) := by decide +kernel
theorem dX9_newly_103 : decode cX9_newly 103 = .ok (.iconst 1, 1) := by decide +kernel
theorem dX9_newly_104 : decode cX9_newly 104 = .ok (.goto 4, 3) := by decide +kernel
theorem dX9_newly_107 : decode cX9_newly 107 = .ok (.iconst 0, 1) := by decide +kernel
theorem dX9_newly_108 : decode cX9_newly 108 = .ok (.iadd, 1) := by decide +kernel
theorem dX9_newly_109 : decode cX9_newly 109 = .ok (.istore 5, 2) := by decide +kernel
theorem dX9_newly_111 : decode cX9_newly 111 = .ok (.iinc 7 1, 3) := by decide +kernel
theorem dX9_newly_114 : decode cX9_newly 114 = .ok (.goto (-90), 3) := by decide +kernel
theorem dX9_newly_117 : decode cX9_newly 117 = .ok (.iload_n 3, 1) := by decide +kernel
theorem dX9_newly_118 : decode cX9_newly 118 = .ok (.iconst 1, 1) := by decide +kernel
theorem dX9_newly_119 : decode cX9_newly 119 = .ok (.if_icmp .gt 7, 3) := by decide +kernel
theorem dX9_newly_122 : decode cX9_newly 122 = .ok (.iconst 0, 1) := by decide +kernel
theorem dX9_newly_123 : decode cX9_newly 123 = .ok (.goto 12, 3) := by decide +kernel
theorem dX9_newly_126 : decode cX9_newly 126 = .ok (.iload 4, 2) := by decide +kernel
theorem dX9_newly_128 : decode cX9_newly 128 = .ok (.iload 5, 2) := by decide +kernel
theorem dX9_newly_130 : decode cX9_newly 130 = .ok (.iconst 1, 1) := by decide +kernel
theorem dX9_newly_131 : decode cX9_newly 131 = .ok (.iadd, 1) := by decide +kernel
theorem dX9_newly_132 : decode cX9_newly 132 = .ok (.iconst 2, 1) := by decide +kernel
theorem dX9_newly_133 : decode cX9_newly 133 = .ok (.idiv, 1) := by decide +kernel
theorem dX9_newly_134 : decode cX9_newly 134 = .ok (.iadd, 1) := by decide +kernel
theorem dX9_newly_135 : decode cX9_newly 135 = .ok (.ireturn, 1) := by decide +kernel
theorem dX9_bond_0 : decode cX9_bond 0 = .ok (.iload_n 1, 1) := by decide +kernel
theorem dX9_bond_1 : decode cX9_bond 1 = .ok (.invokestatic 254, 3) := by decide +kernel
theorem dX9_bond_4 : decode cX9_bond 4 = .ok (.ifCond .ne 6, 3) := by decide +kernel
theorem dX9_bond_7 : decode cX9_bond 7 = .ok (.bipush (-5), 2) := by decide +kernel
theorem dX9_bond_9 : decode cX9_bond 9 = .ok (.ireturn, 1) := by decide +kernel
theorem dX9_bond_10 : decode cX9_bond 10 = .ok (.iload_n 2, 1) := by decide +kernel
theorem dX9_bond_11 : decode cX9_bond 11 = .ok (.ifCond .ne 10, 3) := by decide +kernel
theorem dX9_bond_14 : decode cX9_bond 14 = .ok (.aload_n 0, 1) := by decide +kernel
theorem dX9_bond_15 : decode cX9_bond 15 = .ok (.invokevirtual 294, 3) := by decide +kernel
theorem dX9_bond_18 : decode cX9_bond 18 = .ok (.goto 22, 3) := by decide +kernel
theorem dX9_bond_21 : decode cX9_bond 21 = .ok (.iload_n 2, 1) := by decide +kernel
theorem dX9_bond_22 : decode cX9_bond 22 = .ok (.iconst 1, 1) := by decide +kernel
theorem dX9_bond_23 : decode cX9_bond 23 = .ok (.if_icmp .ne 15, 3) := by decide +kernel
theorem dX9_bond_26 : decode cX9_bond 26 = .ok (.aload_n 0, 1) := by decide +kernel
theorem dX9_bond_27 : decode cX9_bond 27 = .ok (.iload_n 1, 1) := by decide +kernel
theorem dX9_bond_28 : decode cX9_bond 28 = .ok (.aload_n 0, 1) := by decide +kernel
theorem dX9_bond_29 : decode cX9_bond 29 = .ok (.invokevirtual 294, 3) := by decide +kernel
theorem dX9_bond_32 : decode cX9_bond 32 = .ok (.invokevirtual 291, 3) := by decide +kernel
theorem dX9_bond_35 : decode cX9_bond 35 = .ok (.goto 5, 3) := by decide +kernel
theorem dX9_bond_38 : decode cX9_bond 38 = .ok (.bipush (-7), 2) := by decide +kernel
theorem dX9_bond_40 : decode cX9_bond 40 = .ok (.ireturn, 1) := by decide +kernel
theorem dX9_hours_0 : decode cX9_hours 0 = .ok (.aload_n 0, 1) := by decide +kernel
theorem dX9_hours_1 : decode cX9_hours 1 = .ok (.iload_n 1, 1) := by decide +kernel
theorem dX9_hours_2 : decode cX9_hours 2 = .ok (.invokevirtual 257, 3) := by decide +kernel
theorem dX9_hours_5 : decode cX9_hours 5 = .ok (.ifCond .ne 6, 3) := by decide +kernel
theorem dX9_hours_8 : decode cX9_hours 8 = .ok (.bipush (-5), 2) := by decide +kernel
theorem dX9_hours_10 : decode cX9_hours 10 = .ok (.ireturn, 1) := by decide +kernel
theorem dX9_hours_11 : decode cX9_hours 11 = .ok (.iload_n 2, 1) := by decide +kernel
theorem dX9_hours_12 : decode cX9_hours 12 = .ok (.iconst 0, 1) := by decide +kernel
theorem dX9_hours_13 : decode cX9_hours 13 = .ok (.iconst 1, 1) := by decide +kernel
theorem dX9_hours_14 : decode cX9_hours 14 = .ok (.invokestatic 88, 3) := by decide +kernel
theorem dX9_hours_17 : decode cX9_hours 17 = .ok (.ifCond .ne 6, 3) := by decide +kernel
theorem dX9_hours_20 : decode cX9_hours 20 = .ok (.bipush (-7), 2) := by decide +kernel
theorem dX9_hours_22 : decode cX9_hours 22 = .ok (.ireturn, 1) := by decide +kernel
theorem dX9_hours_23 : decode cX9_hours 23 = .ok (.aload_n 0, 1) := by decide +kernel
theorem dX9_hours_24 : decode cX9_hours 24 = .ok (.getfield 7, 3) := by decide +kernel
theorem dX9_hours_27 : decode cX9_hours 27 = .ok (.istore_n 3, 1) := by decide +kernel
theorem dX9_hours_28 : decode cX9_hours 28 = .ok (.iconst 0, 1) := by decide +kernel
theorem dX9_hours_29 : decode cX9_hours 29 = .ok (.istore 4, 2) := by decide +kernel
theorem dX9_hours_31 : decode cX9_hours 31 = .ok (.iconst (-1), 1) := by decide +kernel
theorem dX9_hours_32 : decode cX9_hours 32 = .ok (.istore 5, 2) := by decide +kernel
theorem dX9_hours_34 : decode cX9_hours 34 = .ok (.iconst 0, 1) := by decide +kernel
theorem dX9_hours_35 : decode cX9_hours 35 = .ok (.istore 6, 2) := by decide +kernel
theorem dX9_hours_37 : decode cX9_hours 37 = .ok (.iconst 0, 1) := by decide +kernel
theorem dX9_hours_38 : decode cX9_hours 38 = .ok (.istore 7, 2) := by decide +kernel
theorem dX9_hours_40 : decode cX9_hours 40 = .ok (.iload 7, 2) := by decide +kernel
theorem dX9_hours_42 : decode cX9_hours 42 = .ok (.bipush 24, 2) := by decide +kernel
theorem dX9_hours_44 : decode cX9_hours 44 = .ok (.if_icmp .ge 79, 3) := by decide +kernel
theorem dX9_hours_47 : decode cX9_hours 47 = .ok (.aload_n 0, 1) := by decide +kernel
theorem dX9_hours_48 : decode cX9_hours 48 = .ok (.iload 7, 2) := by decide +kernel
theorem dX9_hours_50 : decode cX9_hours 50 = .ok (.putfield 7, 3) := by decide +kernel
theorem dX9_hours_53 : decode cX9_hours 53 = .ok (.aload_n 0, 1) := by decide +kernel
theorem dX9_hours_54 : decode cX9_hours 54 = .ok (.iconst 0, 1) := by decide +kernel
theorem dX9_hours_55 : decode cX9_hours 55 = .ok (.invokevirtual 241, 3) := by decide +kernel
theorem dX9_hours_58 : decode cX9_hours 58 = .ok (.aload_n 0, 1) := by decide +kernel
theorem dX9_hours_59 : decode cX9_hours 59 = .ok (.invokevirtual 267, 3) := by decide +kernel
theorem dX9_hours_62 : decode cX9_hours 62 = .ok (.aload_n 0, 1) := by decide +kernel
theorem dX9_hours_63 : decode cX9_hours 63 = .ok (.iconst 1, 1) := by decide +kernel
theorem dX9_hours_64 : decode cX9_hours 64 = .ok (.iload_n 1, 1) := by decide +kernel
theorem dX9_hours_65 : decode cX9_hours 65 = .ok (.ishl, 1) := by decide +kernel
theorem dX9_hours_66 : decode cX9_hours 66 = .ok (.invokevirtual 273, 3) := by decide +kernel
theorem dX9_hours_69 : decode cX9_hours 69 = .ok (.istore 8, 2) := by decide +kernel
theorem dX9_hours_71 : decode cX9_hours 71 = .ok (.iload 4, 2) := by decide +kernel
theorem dX9_hours_73 : decode cX9_hours 73 = .ok (.iload 8, 2) := by decide +kernel
theorem dX9_hours_75 : decode cX9_hours 75 = .ok (.iconst (-1), 1) := by decide +kernel
theorem dX9_hours_76 : decode cX9_hours 76 = .ok (.if_icmp .ne 7, 3) := by decide +kernel
theorem dX9_hours_79 : decode cX9_hours 79 = .ok (.iconst 0, 1) := by decide +kernel
theorem dX9_hours_80 : decode cX9_hours 80 = .ok (.goto 7, 3) := by decide +kernel
theorem dX9_hours_83 : decode cX9_hours 83 = .ok (.iconst 1, 1) := by decide +kernel
theorem dX9_hours_84 : decode cX9_hours 84 = .ok (.iload 7, 2) := by decide +kernel
theorem dX9_hours_86 : decode cX9_hours 86 = .ok (.ishl, 1) := by decide +kernel
theorem dX9_hours_87 : decode cX9_hours 87 = .ok (.ior, 1) := by decide +kernel
theorem dX9_hours_88 : decode cX9_hours 88 = .ok (.istore 4, 2) := by decide +kernel
theorem dX9_hours_90 : decode cX9_hours 90 = .ok (.iload 8, 2) := by decide +kernel
theorem dX9_hours_92 : decode cX9_hours 92 = .ok (.iconst (-1), 1) := by decide +kernel
theorem dX9_hours_93 : decode cX9_hours 93 = .ok (.if_icmp .eq 24, 3) := by decide +kernel
theorem dX9_hours_96 : decode cX9_hours 96 = .ok (.iload 5, 2) := by decide +kernel
theorem dX9_hours_98 : decode cX9_hours 98 = .ok (.iconst (-1), 1) := by decide +kernel
theorem dX9_hours_99 : decode cX9_hours 99 = .ok (.if_icmp .eq 10, 3) := by decide +kernel
theorem dX9_hours_102 : decode cX9_hours 102 = .ok (.iload 8, 2) := by decide +kernel
theorem dX9_hours_104 : decode cX9_hours 104 = .ok (.iload 6, 2) := by decide +kernel
theorem dX9_hours_106 : decode cX9_hours 106 = .ok (.if_icmp .ge 11, 3) := by decide +kernel
theorem dX9_hours_109 : decode cX9_hours 109 = .ok (.iload 7, 2) := by decide +kernel
theorem dX9_hours_111 : decode cX9_hours 111 = .ok (.istore 5, 2) := by decide +kernel
theorem dX9_hours_113 : decode cX9_hours 113 = .ok (.iload 8, 2) := by decide +kernel
theorem dX9_hours_115 : decode cX9_hours 115 = .ok (.istore 6, 2) := by decide +kernel
theorem dX9_hours_117 : decode cX9_hours 117 = .ok (.iinc 7 1, 3) := by decide +kernel
theorem dX9_hours_120 : decode cX9_hours 120 = .ok (.goto (-80), 3) := by decide +kernel
theorem dX9_hours_123 : decode cX9_hours 123 = .ok (.aload_n 0, 1) := by decide +kernel
theorem dX9_hours_124 : decode cX9_hours 124 = .ok (.iload_n 3, 1) := by decide +kernel
theorem dX9_hours_125 : decode cX9_hours 125 = .ok (.putfield 7, 3) := by decide +kernel
theorem dX9_hours_128 : decode cX9_hours 128 = .ok (.iload_n 2, 1) := by decide +kernel
theorem dX9_hours_129 : decode cX9_hours 129 = .ok (.ifCond .ne 8, 3) := by decide +kernel
theorem dX9_hours_132 : decode cX9_hours 132 = .ok (.iload 4, 2) := by decide +kernel
theorem dX9_hours_134 : decode cX9_hours 134 = .ok (.goto 5, 3) := by decide +kernel
theorem dX9_hours_137 : decode cX9_hours 137 = .ok (.iload 5, 2) := by decide +kernel
theorem dX9_hours_139 : decode cX9_hours 139 = .ok (.ireturn, 1) := by decide +kernel
theorem dX9_laws_0 : decode cX9_laws 0 = .ok (.aload_n 0, 1) := by decide +kernel
theorem dX9_laws_1 : decode cX9_laws 1 = .ok (.iload_n 1, 1) := by decide +kernel
theorem dX9_laws_2 : decode cX9_laws 2 = .ok (.invokevirtual 257, 3) := by decide +kernel
theorem dX9_laws_5 : decode cX9_laws 5 = .ok (.ifCond .ne 6, 3) := by decide +kernel
theorem dX9_laws_8 : decode cX9_laws 8 = .ok (.bipush (-5), 2) := by decide +kernel
theorem dX9_laws_10 : decode cX9_laws 10 = .ok (.ireturn, 1) := by decide +kernel
theorem dX9_laws_11 : decode cX9_laws 11 = .ok (.aload_n 0, 1) := by decide +kernel
theorem dX9_laws_12 : decode cX9_laws 12 = .ok (.getfield 111, 3) := by decide +kernel
theorem dX9_laws_15 : decode cX9_laws 15 = .ok (.istore_n 2, 1) := by decide +kernel
theorem dX9_laws_16 : decode cX9_laws 16 = .ok (.iconst 0, 1) := by decide +kernel
theorem dX9_laws_17 : decode cX9_laws 17 = .ok (.istore_n 3, 1) := by decide +kernel
theorem dX9_laws_18 : decode cX9_laws 18 = .ok (.iconst 0, 1) := by decide +kernel
theorem dX9_laws_19 : decode cX9_laws 19 = .ok (.istore 4, 2) := by decide +kernel
theorem dX9_laws_21 : decode cX9_laws 21 = .ok (.iload 4, 2) := by decide +kernel
theorem dX9_laws_23 : decode cX9_laws 23 = .ok (.aload_n 0, 1) := by decide +kernel
theorem dX9_laws_24 : decode cX9_laws 24 = .ok (.getfield 108, 3) := by decide +kernel
theorem dX9_laws_27 : decode cX9_laws 27 = .ok (.if_icmp .ge 38, 3) := by decide +kernel
theorem dX9_laws_30 : decode cX9_laws 30 = .ok (.aload_n 0, 1) := by decide +kernel
theorem dX9_laws_31 : decode cX9_laws 31 = .ok (.iload 4, 2) := by decide +kernel
theorem dX9_laws_33 : decode cX9_laws 33 = .ok (.putfield 111, 3) := by decide +kernel
theorem dX9_laws_36 : decode cX9_laws 36 = .ok (.iload_n 3, 1) := by decide +kernel
theorem dX9_laws_37 : decode cX9_laws 37 = .ok (.aload_n 0, 1) := by decide +kernel
theorem dX9_laws_38 : decode cX9_laws 38 = .ok (.invokevirtual 279, 3) := by decide +kernel
theorem dX9_laws_41 : decode cX9_laws 41 = .ok (.iload_n 1, 1) := by decide +kernel
theorem dX9_laws_42 : decode cX9_laws 42 = .ok (.ishr, 1) := by decide +kernel
theorem dX9_laws_43 : decode cX9_laws 43 = .ok (.iconst 1, 1) := by decide +kernel
theorem dX9_laws_44 : decode cX9_laws 44 = .ok (.iand, 1) := by decide +kernel
theorem dX9_laws_45 : decode cX9_laws 45 = .ok (.iconst 1, 1) := by decide +kernel
theorem dX9_laws_46 : decode cX9_laws 46 = .ok (.if_icmp .ne 10, 3) := by decide +kernel
theorem dX9_laws_49 : decode cX9_laws 49 = .ok (.iconst 1, 1) := by decide +kernel
theorem dX9_laws_50 : decode cX9_laws 50 = .ok (.iload 4, 2) := by decide +kernel
theorem dX9_laws_52 : decode cX9_laws 52 = .ok (.ishl, 1) := by decide +kernel
theorem dX9_laws_53 : decode cX9_laws 53 = .ok (.goto 4, 3) := by decide +kernel
theorem dX9_laws_56 : decode cX9_laws 56 = .ok (.iconst 0, 1) := by decide +kernel
theorem dX9_laws_57 : decode cX9_laws 57 = .ok (.ior, 1) := by decide +kernel
theorem dX9_laws_58 : decode cX9_laws 58 = .ok (.istore_n 3, 1) := by decide +kernel
theorem dX9_laws_59 : decode cX9_laws 59 = .ok (.iinc 4 1, 3) := by decide +kernel
theorem dX9_laws_62 : decode cX9_laws 62 = .ok (.goto (-41), 3) := by decide +kernel
theorem dX9_laws_65 : decode cX9_laws 65 = .ok (.aload_n 0, 1) := by decide +kernel
theorem dX9_laws_66 : decode cX9_laws 66 = .ok (.iload_n 2, 1) := by decide +kernel
theorem dX9_laws_67 : decode cX9_laws 67 = .ok (.putfield 111, 3) := by decide +kernel
theorem dX9_laws_70 : decode cX9_laws 70 = .ok (.iload_n 3, 1) := by decide +kernel
theorem dX9_laws_71 : decode cX9_laws 71 = .ok (.ireturn, 1) := by decide +kernel
theorem dX9_sets_0 : decode cX9_sets 0 = .ok (.aload_n 0, 1) := by decide +kernel
theorem dX9_sets_1 : decode cX9_sets 1 = .ok (.iconst 0, 1) := by decide +kernel
theorem dX9_sets_2 : decode cX9_sets 2 = .ok (.invokevirtual 241, 3) := by decide +kernel
theorem dX9_sets_5 : decode cX9_sets 5 = .ok (.aload_n 0, 1) := by decide +kernel
theorem dX9_sets_6 : decode cX9_sets 6 = .ok (.aload_n 0, 1) := by decide +kernel
theorem dX9_sets_7 : decode cX9_sets 7 = .ok (.getfield 99, 3) := by decide +kernel
theorem dX9_sets_10 : decode cX9_sets 10 = .ok (.putfield 303, 3) := by decide +kernel
theorem dX9_sets_13 : decode cX9_sets 13 = .ok (.aload_n 0, 1) := by decide +kernel
theorem dX9_sets_14 : decode cX9_sets 14 = .ok (.iconst 0, 1) := by decide +kernel
theorem dX9_sets_15 : decode cX9_sets 15 = .ok (.putfield 306, 3) := by decide +kernel
theorem dX9_sets_18 : decode cX9_sets 18 = .ok (.aload_n 0, 1) := by decide +kernel
theorem dX9_sets_19 : decode cX9_sets 19 = .ok (.iconst 0, 1) := by decide +kernel
theorem dX9_sets_20 : decode cX9_sets 20 = .ok (.putfield 309, 3) := by decide +kernel
theorem dX9_sets_23 : decode cX9_sets 23 = .ok (.return_, 1) := by decide +kernel
theorem dX9_mayBeNext_0 : decode cX9_mayBeNext 0 = .ok (.aload_n 0, 1) := by decide +kernel
theorem dX9_mayBeNext_1 : decode cX9_mayBeNext 1 = .ok (.iload_n 1, 1) := by decide +kernel
theorem dX9_mayBeNext_2 : decode cX9_mayBeNext 2 = .ok (.invokevirtual 187, 3) := by decide +kernel
theorem dX9_mayBeNext_5 : decode cX9_mayBeNext 5 = .ok (.ifCond .eq 29, 3) := by decide +kernel
theorem dX9_mayBeNext_8 : decode cX9_mayBeNext 8 = .ok (.aload_n 0, 1) := by decide +kernel
theorem dX9_mayBeNext_9 : decode cX9_mayBeNext 9 = .ok (.getfield 102, 3) := by decide +kernel
theorem dX9_mayBeNext_12 : decode cX9_mayBeNext 12 = .ok (.iconst 1, 1) := by decide +kernel
theorem dX9_mayBeNext_13 : decode cX9_mayBeNext 13 = .ok (.if_icmp .ne 23, 3) := by decide +kernel
theorem dX9_mayBeNext_16 : decode cX9_mayBeNext 16 = .ok (.aload_n 0, 1) := by decide +kernel
theorem dX9_mayBeNext_17 : decode cX9_mayBeNext 17 = .ok (.getfield 306, 3) := by decide +kernel
theorem dX9_mayBeNext_20 : decode cX9_mayBeNext 20 = .ok (.ifCond .eq 16, 3) := by decide +kernel
theorem dX9_mayBeNext_23 : decode cX9_mayBeNext 23 = .ok (.aload_n 0, 1) := by decide +kernel
theorem dX9_mayBeNext_24 : decode cX9_mayBeNext 24 = .ok (.getfield 303, 3) := by decide +kernel
theorem dX9_mayBeNext_27 : decode cX9_mayBeNext 27 = .ok (.aload_n 0, 1) := by decide +kernel
theorem dX9_mayBeNext_28 : decode cX9_mayBeNext 28 = .ok (.getfield 99, 3) := by decide +kernel
theorem dX9_mayBeNext_31 : decode cX9_mayBeNext 31 = .ok (.if_icmp .ne 5, 3) := by decide +kernel
theorem dX9_mayBeNext_34 : decode cX9_mayBeNext 34 = .ok (.iconst 0, 1) := by decide +kernel
theorem dX9_mayBeNext_35 : decode cX9_mayBeNext 35 = .ok (.ireturn, 1) := by decide +kernel
theorem dX9_mayBeNext_36 : decode cX9_mayBeNext 36 = .ok (.aload_n 0, 1) := by decide +kernel
theorem dX9_mayBeNext_37 : decode cX9_mayBeNext 37 = .ok (.aload_n 0, 1) := by decide +kernel
theorem dX9_mayBeNext_38 : decode cX9_mayBeNext 38 = .ok (.getfield 306, 3) := by decide +kernel
theorem dX9_mayBeNext_41 : decode cX9_mayBeNext 41 = .ok (.invokevirtual 224, 3) := by decide +kernel
theorem dX9_mayBeNext_44 : decode cX9_mayBeNext 44 = .ok (.iload_n 1, 1) := by decide +kernel
theorem dX9_mayBeNext_45 : decode cX9_mayBeNext 45 = .ok (.ishr, 1) := by decide +kernel
theorem dX9_mayBeNext_46 : decode cX9_mayBeNext 46 = .ok (.iconst 1, 1) := by decide +kernel
theorem dX9_mayBeNext_47 : decode cX9_mayBeNext 47 = .ok (.iand, 1) := by decide +kernel
theorem dX9_mayBeNext_48 : decode cX9_mayBeNext 48 = .ok (.iconst 1, 1) := by decide +kernel
theorem dX9_mayBeNext_49 : decode cX9_mayBeNext 49 = .ok (.if_icmp .ne 7, 3) := by decide +kernel
theorem dX9_mayBeNext_52 : decode cX9_mayBeNext 52 = .ok (.iconst (-1), 1) := by decide +kernel
theorem dX9_mayBeNext_53 : decode cX9_mayBeNext 53 = .ok (.goto 12, 3) := by decide +kernel
theorem dX9_mayBeNext_56 : decode cX9_mayBeNext 56 = .ok (.aload_n 0, 1) := by decide +kernel
theorem dX9_mayBeNext_57 : decode cX9_mayBeNext 57 = .ok (.iload_n 1, 1) := by decide +kernel
theorem dX9_mayBeNext_58 : decode cX9_mayBeNext 58 = .ok (.aload_n 0, 1) := by decide +kernel
theorem dX9_mayBeNext_59 : decode cX9_mayBeNext 59 = .ok (.getfield 303, 3) := by decide +kernel
theorem dX9_mayBeNext_62 : decode cX9_mayBeNext 62 = .ok (.invokevirtual 214, 3) := by decide +kernel
theorem dX9_mayBeNext_65 : decode cX9_mayBeNext 65 = .ok (.istore_n 2, 1) := by decide +kernel
theorem dX9_mayBeNext_66 : decode cX9_mayBeNext 66 = .ok (.iload_n 2, 1) := by decide +kernel
theorem dX9_mayBeNext_67 : decode cX9_mayBeNext 67 = .ok (.iconst (-1), 1) := by decide +kernel
theorem dX9_mayBeNext_68 : decode cX9_mayBeNext 68 = .ok (.if_icmp .eq 41, 3) := by decide +kernel
theorem dX9_mayBeNext_71 : decode cX9_mayBeNext 71 = .ok (.aload_n 0, 1) := by decide +kernel
theorem dX9_mayBeNext_72 : decode cX9_mayBeNext 72 = .ok (.getfield 62, 3) := by decide +kernel
theorem dX9_mayBeNext_75 : decode cX9_mayBeNext 75 = .ok (.iconst 4, 1) := by decide +kernel
theorem dX9_mayBeNext_76 : decode cX9_mayBeNext 76 = .ok (.iload_n 1, 1) := by decide +kernel
theorem dX9_mayBeNext_77 : decode cX9_mayBeNext 77 = .ok (.imul, 1) := by decide +kernel
theorem dX9_mayBeNext_78 : decode cX9_mayBeNext 78 = .ok (.iload_n 2, 1) := by decide +kernel
theorem dX9_mayBeNext_79 : decode cX9_mayBeNext 79 = .ok (.iadd, 1) := by decide +kernel
theorem dX9_mayBeNext_80 : decode cX9_mayBeNext 80 = .ok (.iaload, 1) := by decide +kernel
theorem dX9_mayBeNext_81 : decode cX9_mayBeNext 81 = .ok (.ifCond .le 28, 3) := by decide +kernel
theorem dX9_mayBeNext_84 : decode cX9_mayBeNext 84 = .ok (.aload_n 0, 1) := by decide +kernel
theorem dX9_mayBeNext_85 : decode cX9_mayBeNext 85 = .ok (.aload_n 0, 1) := by decide +kernel
theorem dX9_mayBeNext_86 : decode cX9_mayBeNext 86 = .ok (.iload_n 1, 1) := by decide +kernel
theorem dX9_mayBeNext_87 : decode cX9_mayBeNext 87 = .ok (.iload_n 2, 1) := by decide +kernel
theorem dX9_mayBeNext_88 : decode cX9_mayBeNext 88 = .ok (.invokevirtual 217, 3) := by decide +kernel
theorem dX9_mayBeNext_91 : decode cX9_mayBeNext 91 = .ok (.aload_n 0, 1) := by decide +kernel
theorem dX9_mayBeNext_92 : decode cX9_mayBeNext 92 = .ok (.aload_n 0, 1) := by decide +kernel
theorem dX9_mayBeNext_93 : decode cX9_mayBeNext 93 = .ok (.getfield 306, 3) := by decide +kernel
theorem dX9_mayBeNext_96 : decode cX9_mayBeNext 96 = .ok (.invokevirtual 227, 3) := by decide +kernel
theorem dX9_mayBeNext_99 : decode cX9_mayBeNext 99 = .ok (.invokevirtual 220, 3) := by decide +kernel
theorem dX9_mayBeNext_102 : decode cX9_mayBeNext 102 = .ok (.ifCond .eq 7, 3) := by decide +kernel
theorem dX9_mayBeNext_105 : decode cX9_mayBeNext 105 = .ok (.iconst 1, 1) := by decide +kernel
theorem dX9_mayBeNext_106 : decode cX9_mayBeNext 106 = .ok (.goto 4, 3) := by decide +kernel
theorem dX9_mayBeNext_109 : decode cX9_mayBeNext 109 = .ok (.iconst 0, 1) := by decide +kernel
theorem dX9_mayBeNext_110 : decode cX9_mayBeNext 110 = .ok (.ireturn, 1) := by decide +kernel
theorem dX9_steps_0 : decode cX9_steps 0 = .ok (.aload_n 0, 1) := by decide +kernel
theorem dX9_steps_1 : decode cX9_steps 1 = .ok (.iload_n 1, 1) := by decide +kernel
theorem dX9_steps_2 : decode cX9_steps 2 = .ok (.aload_n 0, 1) := by decide +kernel
theorem dX9_steps_3 : decode cX9_steps 3 = .ok (.getfield 303, 3) := by decide +kernel
theorem dX9_steps_6 : decode cX9_steps 6 = .ok (.invokevirtual 214, 3) := by decide +kernel
theorem dX9_steps_9 : decode cX9_steps 9 = .ok (.istore_n 2, 1) := by decide +kernel
theorem dX9_steps_10 : decode cX9_steps 10 = .ok (.aload_n 0, 1) := by decide +kernel
theorem dX9_steps_11 : decode cX9_steps 11 = .ok (.dup, 1) := by decide +kernel
theorem dX9_steps_12 : decode cX9_steps 12 = .ok (.getfield 309, 3) := by decide +kernel
theorem dX9_steps_15 : decode cX9_steps 15 = .ok (.aload_n 0, 1) := by decide +kernel
theorem dX9_steps_16 : decode cX9_steps 16 = .ok (.getfield 62, 3) := by decide +kernel
theorem dX9_steps_19 : decode cX9_steps 19 = .ok (.iconst 4, 1) := by decide +kernel
theorem dX9_steps_20 : decode cX9_steps 20 = .ok (.iload_n 1, 1) := by decide +kernel
theorem dX9_steps_21 : decode cX9_steps 21 = .ok (.imul, 1) := by decide +kernel
theorem dX9_steps_22 : decode cX9_steps 22 = .ok (.iload_n 2, 1) := by decide +kernel
theorem dX9_steps_23 : decode cX9_steps 23 = .ok (.iadd, 1) := by decide +kernel
theorem dX9_steps_24 : decode cX9_steps 24 = .ok (.iaload, 1) := by decide +kernel
theorem dX9_steps_25 : decode cX9_steps 25 = .ok (.iadd, 1) := by decide +kernel
theorem dX9_steps_26 : decode cX9_steps 26 = .ok (.putfield 309, 3) := by decide +kernel
theorem dX9_steps_29 : decode cX9_steps 29 = .ok (.aload_n 0, 1) := by decide +kernel
theorem dX9_steps_30 : decode cX9_steps 30 = .ok (.aload_n 0, 1) := by decide +kernel
theorem dX9_steps_31 : decode cX9_steps 31 = .ok (.iload_n 1, 1) := by decide +kernel
theorem dX9_steps_32 : decode cX9_steps 32 = .ok (.iload_n 2, 1) := by decide +kernel
theorem dX9_steps_33 : decode cX9_steps 33 = .ok (.invokevirtual 217, 3) := by decide +kernel
theorem dX9_steps_36 : decode cX9_steps 36 = .ok (.putfield 303, 3) := by decide +kernel
theorem dX9_steps_39 : decode cX9_steps 39 = .ok (.aload_n 0, 1) := by decide +kernel
theorem dX9_steps_40 : decode cX9_steps 40 = .ok (.dup, 1) := by decide +kernel
theorem dX9_steps_41 : decode cX9_steps 41 = .ok (.getfield 306, 3) := by decide +kernel
theorem dX9_steps_44 : decode cX9_steps 44 = .ok (.iconst 1, 1) := by decide +kernel
theorem dX9_steps_45 : decode cX9_steps 45 = .ok (.iload_n 1, 1) := by decide +kernel
theorem dX9_steps_46 : decode cX9_steps 46 = .ok (.ishl, 1) := by decide +kernel
theorem dX9_steps_47 : decode cX9_steps 47 = .ok (.ior, 1) := by decide +kernel
theorem dX9_steps_48 : decode cX9_steps 48 = .ok (.putfield 306, 3) := by decide +kernel
theorem dX9_steps_51 : decode cX9_steps 51 = .ok (.return_, 1) := by decide +kernel
theorem dX9_follows_0 : decode cX9_follows 0 = .ok (.aload_n 0, 1) := by decide +kernel
theorem dX9_follows_1 : decode cX9_follows 1 = .ok (.invokevirtual 312, 3) := by decide +kernel
theorem dX9_follows_4 : decode cX9_follows 4 = .ok (.iconst 0, 1) := by decide +kernel
theorem dX9_follows_5 : decode cX9_follows 5 = .ok (.istore_n 2, 1) := by decide +kernel
theorem dX9_follows_6 : decode cX9_follows 6 = .ok (.iload_n 2, 1) := by decide +kernel
theorem dX9_follows_7 : decode cX9_follows 7 = .ok (.aload_n 0, 1) := by decide +kernel
theorem dX9_follows_8 : decode cX9_follows 8 = .ok (.getfield 41, 3) := by decide +kernel
theorem dX9_follows_11 : decode cX9_follows 11 = .ok (.iload_n 1, 1) := by decide +kernel
theorem dX9_follows_12 : decode cX9_follows 12 = .ok (.iaload, 1) := by decide +kernel
theorem dX9_follows_13 : decode cX9_follows 13 = .ok (.if_icmp .ge 87, 3) := by decide +kernel
theorem dX9_follows_16 : decode cX9_follows 16 = .ok (.aload_n 0, 1) := by decide +kernel
theorem dX9_follows_17 : decode cX9_follows 17 = .ok (.aload_n 0, 1) := by decide +kernel
theorem dX9_follows_18 : decode cX9_follows 18 = .ok (.getfield 44, 3) := by decide +kernel
theorem dX9_follows_21 : decode cX9_follows 21 = .ok (.bipush 40, 2) := by decide +kernel
theorem dX9_follows_23 : decode cX9_follows 23 = .ok (.iload_n 1, 1) := by decide +kernel
theorem dX9_follows_24 : decode cX9_follows 24 = .ok (.imul, 1) := by decide +kernel
theorem dX9_follows_25 : decode cX9_follows 25 = .ok (.iload_n 2, 1) := by decide +kernel
theorem dX9_follows_26 : decode cX9_follows 26 = .ok (.iadd, 1) := by decide +kernel
theorem dX9_follows_27 : decode cX9_follows 27 = .ok (.iaload, 1) := by decide +kernel
theorem dX9_follows_28 : decode cX9_follows 28 = .ok (.invokevirtual 315, 3) := by decide +kernel
theorem dX9_follows_31 : decode cX9_follows 31 = .ok (.ifCond .eq 69, 3) := by decide +kernel
theorem dX9_follows_34 : decode cX9_follows 34 = .ok (.aload_n 0, 1) := by decide +kernel
theorem dX9_follows_35 : decode cX9_follows 35 = .ok (.getfield 44, 3) := by decide +kernel
theorem dX9_follows_38 : decode cX9_follows 38 = .ok (.bipush 40, 2) := by decide +kernel
theorem dX9_follows_40 : decode cX9_follows 40 = .ok (.iload_n 1, 1) := by decide +kernel
theorem dX9_follows_41 : decode cX9_follows 41 = .ok (.imul, 1) := by decide +kernel
theorem dX9_follows_42 : decode cX9_follows 42 = .ok (.iload_n 2, 1) := by decide +kernel
theorem dX9_follows_43 : decode cX9_follows 43 = .ok (.iadd, 1) := by decide +kernel
theorem dX9_follows_44 : decode cX9_follows 44 = .ok (.iaload, 1) := by decide +kernel
theorem dX9_follows_45 : decode cX9_follows 45 = .ok (.istore_n 3, 1) := by decide +kernel
theorem dX9_follows_46 : decode cX9_follows 46 = .ok (.aload_n 0, 1) := by decide +kernel
theorem dX9_follows_47 : decode cX9_follows 47 = .ok (.getfield 102, 3) := by decide +kernel
theorem dX9_follows_50 : decode cX9_follows 50 = .ok (.iconst 1, 1) := by decide +kernel
theorem dX9_follows_51 : decode cX9_follows 51 = .ok (.if_icmp .ne 38, 3) := by decide +kernel
theorem dX9_follows_54 : decode cX9_follows 54 = .ok (.aload_n 0, 1) := by decide +kernel
theorem dX9_follows_55 : decode cX9_follows 55 = .ok (.iload_n 3, 1) := by decide +kernel
theorem dX9_follows_56 : decode cX9_follows 56 = .ok (.aload_n 0, 1) := by decide +kernel
theorem dX9_follows_57 : decode cX9_follows 57 = .ok (.iload_n 3, 1) := by decide +kernel
theorem dX9_follows_58 : decode cX9_follows 58 = .ok (.aload_n 0, 1) := by decide +kernel
theorem dX9_follows_59 : decode cX9_follows 59 = .ok (.getfield 303, 3) := by decide +kernel
theorem dX9_follows_62 : decode cX9_follows 62 = .ok (.invokevirtual 214, 3) := by decide +kernel
theorem dX9_follows_65 : decode cX9_follows 65 = .ok (.invokevirtual 217, 3) := by decide +kernel
theorem dX9_follows_68 : decode cX9_follows 68 = .ok (.aload_n 0, 1) := by decide +kernel
theorem dX9_follows_69 : decode cX9_follows 69 = .ok (.getfield 99, 3) := by decide +kernel
theorem dX9_follows_72 : decode cX9_follows 72 = .ok (.if_icmp .ne 17, 3) := by decide +kernel
theorem dX9_follows_75 : decode cX9_follows 75 = .ok (.iload_n 2, 1) := by decide +kernel
theorem dX9_follows_76 : decode cX9_follows 76 = .ok (.aload_n 0, 1) := by decide +kernel
theorem dX9_follows_77 : decode cX9_follows 77 = .ok (.getfield 41, 3) := by decide +kernel
theorem dX9_follows_80 : decode cX9_follows 80 = .ok (.iload_n 1, 1) := by decide +kernel
theorem dX9_follows_81 : decode cX9_follows 81 = .ok (.iaload, 1) := by decide +kernel
theorem dX9_follows_82 : decode cX9_follows 82 = .ok (.iconst 1, 1) := by decide +kernel
theorem dX9_follows_83 : decode cX9_follows 83 = .ok (.isub, 1) := by decide +kernel
theorem dX9_follows_84 : decode cX9_follows 84 = .ok (.if_icmp .ge 5, 3) := by decide +kernel
theorem dX9_follows_87 : decode cX9_follows 87 = .ok (.iload_n 2, 1) := by decide +kernel
theorem dX9_follows_88 : decode cX9_follows 88 = .ok (.ireturn, 1) := by decide +kernel
theorem dX9_follows_89 : decode cX9_follows 89 = .ok (.aload_n 0, 1) := by decide +kernel
theorem dX9_follows_90 : decode cX9_follows 90 = .ok (.iload_n 3, 1) := by decide +kernel
theorem dX9_follows_91 : decode cX9_follows 91 = .ok (.invokevirtual 318, 3) := by decide +kernel
theorem dX9_follows_94 : decode cX9_follows 94 = .ok (.iinc 2 1, 3) := by decide +kernel
theorem dX9_follows_97 : decode cX9_follows 97 = .ok (.goto (-91), 3) := by decide +kernel
theorem dX9_follows_100 : decode cX9_follows 100 = .ok (.iload_n 2, 1) := by decide +kernel
theorem dX9_follows_101 : decode cX9_follows 101 = .ok (.ireturn, 1) := by decide +kernel
theorem dX9_judge_0 : decode cX9_judge 0 = .ok (.iload_n 1, 1) := by decide +kernel
theorem dX9_judge_1 : decode cX9_judge 1 = .ok (.iconst 0, 1) := by decide +kernel
theorem dX9_judge_2 : decode cX9_judge 2 = .ok (.iconst 3, 1) := by decide +kernel
theorem dX9_judge_3 : decode cX9_judge 3 = .ok (.invokestatic 88, 3) := by decide +kernel
theorem dX9_judge_6 : decode cX9_judge 6 = .ok (.ifCond .ne 6, 3) := by decide +kernel
theorem dX9_judge_9 : decode cX9_judge 9 = .ok (.bipush (-2), 2) := by decide +kernel
theorem dX9_judge_11 : decode cX9_judge 11 = .ok (.ireturn, 1) := by decide +kernel
theorem dX9_judge_12 : decode cX9_judge 12 = .ok (.aload_n 0, 1) := by decide +kernel
theorem dX9_judge_13 : decode cX9_judge 13 = .ok (.getfield 38, 3) := by decide +kernel
theorem dX9_judge_16 : decode cX9_judge 16 = .ok (.iload_n 1, 1) := by decide +kernel
theorem dX9_judge_17 : decode cX9_judge 17 = .ok (.iaload, 1) := by decide +kernel
theorem dX9_judge_18 : decode cX9_judge 18 = .ok (.iconst (-1), 1) := by decide +kernel
theorem dX9_judge_19 : decode cX9_judge 19 = .ok (.if_icmp .ne 6, 3) := by decide +kernel
theorem dX9_judge_22 : decode cX9_judge 22 = .ok (.bipush (-11), 2) := by decide +kernel
theorem dX9_judge_24 : decode cX9_judge 24 = .ok (.ireturn, 1) := by decide +kernel
theorem dX9_judge_25 : decode cX9_judge 25 = .ok (.aload_n 0, 1) := by decide +kernel
theorem dX9_judge_26 : decode cX9_judge 26 = .ok (.iload_n 1, 1) := by decide +kernel
theorem dX9_judge_27 : decode cX9_judge 27 = .ok (.invokevirtual 321, 3) := by decide +kernel
theorem dX9_judge_30 : decode cX9_judge 30 = .ok (.istore_n 2, 1) := by decide +kernel
theorem dX9_judge_31 : decode cX9_judge 31 = .ok (.iload_n 2, 1) := by decide +kernel
theorem dX9_judge_32 : decode cX9_judge 32 = .ok (.aload_n 0, 1) := by decide +kernel
theorem dX9_judge_33 : decode cX9_judge 33 = .ok (.getfield 41, 3) := by decide +kernel
theorem dX9_judge_36 : decode cX9_judge 36 = .ok (.iload_n 1, 1) := by decide +kernel
theorem dX9_judge_37 : decode cX9_judge 37 = .ok (.iaload, 1) := by decide +kernel
theorem dX9_judge_38 : decode cX9_judge 38 = .ok (.if_icmp .ne 7, 3) := by decide +kernel
theorem dX9_judge_41 : decode cX9_judge 41 = .ok (.iconst (-1), 1) := by decide +kernel
theorem dX9_judge_42 : decode cX9_judge 42 = .ok (.goto 4, 3) := by decide +kernel
theorem dX9_judge_45 : decode cX9_judge 45 = .ok (.iload_n 2, 1) := by decide +kernel
theorem dX9_judge_46 : decode cX9_judge 46 = .ok (.ireturn, 1) := by decide +kernel
theorem dX9_walk_0 : decode cX9_walk 0 = .ok (.iload_n 1, 1) := by decide +kernel
theorem dX9_walk_1 : decode cX9_walk 1 = .ok (.iconst 0, 1) := by decide +kernel
theorem dX9_walk_2 : decode cX9_walk 2 = .ok (.iconst 3, 1) := by decide +kernel
theorem dX9_walk_3 : decode cX9_walk 3 = .ok (.invokestatic 88, 3) := by decide +kernel
theorem dX9_walk_6 : decode cX9_walk 6 = .ok (.ifCond .ne 6, 3) := by decide +kernel
theorem dX9_walk_9 : decode cX9_walk 9 = .ok (.bipush (-2), 2) := by decide +kernel
theorem dX9_walk_11 : decode cX9_walk 11 = .ok (.ireturn, 1) := by decide +kernel
theorem dX9_walk_12 : decode cX9_walk 12 = .ok (.aload_n 0, 1) := by decide +kernel
theorem dX9_walk_13 : decode cX9_walk 13 = .ok (.getfield 38, 3) := by decide +kernel
theorem dX9_walk_16 : decode cX9_walk 16 = .ok (.iload_n 1, 1) := by decide +kernel
theorem dX9_walk_17 : decode cX9_walk 17 = .ok (.iaload, 1) := by decide +kernel
theorem dX9_walk_18 : decode cX9_walk 18 = .ok (.iconst (-1), 1) := by decide +kernel
theorem dX9_walk_19 : decode cX9_walk 19 = .ok (.if_icmp .ne 6, 3) := by decide +kernel
theorem dX9_walk_22 : decode cX9_walk 22 = .ok (.bipush (-11), 2) := by decide +kernel
theorem dX9_walk_24 : decode cX9_walk 24 = .ok (.ireturn, 1) := by decide +kernel
theorem dX9_walk_25 : decode cX9_walk 25 = .ok (.iload_n 2, 1) := by decide +kernel
theorem dX9_walk_26 : decode cX9_walk 26 = .ok (.iconst 0, 1) := by decide +kernel
theorem dX9_walk_27 : decode cX9_walk 27 = .ok (.iconst 1, 1) := by decide +kernel
theorem dX9_walk_28 : decode cX9_walk 28 = .ok (.invokestatic 88, 3) := by decide +kernel
theorem dX9_walk_31 : decode cX9_walk 31 = .ok (.ifCond .ne 6, 3) := by decide +kernel
theorem dX9_walk_34 : decode cX9_walk 34 = .ok (.bipush (-7), 2) := by decide +kernel
theorem dX9_walk_36 : decode cX9_walk 36 = .ok (.ireturn, 1) := by decide +kernel
theorem dX9_walk_37 : decode cX9_walk 37 = .ok (.aload_n 0, 1) := by decide +kernel
theorem dX9_walk_38 : decode cX9_walk 38 = .ok (.iload_n 1, 1) := by decide +kernel
theorem dX9_walk_39 : decode cX9_walk 39 = .ok (.invokevirtual 321, 3) := by decide +kernel
theorem dX9_walk_42 : decode cX9_walk 42 = .ok (.pop, 1) := by decide +kernel
theorem dX9_walk_43 : decode cX9_walk 43 = .ok (.iload_n 2, 1) := by decide +kernel
theorem dX9_walk_44 : decode cX9_walk 44 = .ok (.ifCond .ne 10, 3) := by decide +kernel
theorem dX9_walk_47 : decode cX9_walk 47 = .ok (.aload_n 0, 1) := by decide +kernel
theorem dX9_walk_48 : decode cX9_walk 48 = .ok (.getfield 309, 3) := by decide +kernel
theorem dX9_walk_51 : decode cX9_walk 51 = .ok (.goto 7, 3) := by decide +kernel
theorem dX9_walk_54 : decode cX9_walk 54 = .ok (.aload_n 0, 1) := by decide +kernel
theorem dX9_walk_55 : decode cX9_walk 55 = .ok (.getfield 303, 3) := by decide +kernel
theorem dX9_walk_58 : decode cX9_walk 58 = .ok (.ireturn, 1) := by decide +kernel
theorem dX9_show_0 : decode cX9_show 0 = .ok (.aload_n 0, 1) := by decide +kernel
theorem dX9_show_1 : decode cX9_show 1 = .ok (.iload_n 1, 1) := by decide +kernel
theorem dX9_show_2 : decode cX9_show 2 = .ok (.invokevirtual 257, 3) := by decide +kernel
theorem dX9_show_5 : decode cX9_show 5 = .ok (.ifCond .ne 6, 3) := by decide +kernel
theorem dX9_show_8 : decode cX9_show 8 = .ok (.bipush (-5), 2) := by decide +kernel
theorem dX9_show_10 : decode cX9_show 10 = .ok (.ireturn, 1) := by decide +kernel
theorem dX9_show_11 : decode cX9_show 11 = .ok (.iload_n 2, 1) := by decide +kernel
theorem dX9_show_12 : decode cX9_show 12 = .ok (.iconst 0, 1) := by decide +kernel
theorem dX9_show_13 : decode cX9_show 13 = .ok (.iconst 3, 1) := by decide +kernel
theorem dX9_show_14 : decode cX9_show 14 = .ok (.invokestatic 88, 3) := by decide +kernel
theorem dX9_show_17 : decode cX9_show 17 = .ok (.ifCond .ne 6, 3) := by decide +kernel
theorem dX9_show_20 : decode cX9_show 20 = .ok (.bipush (-2), 2) := by decide +kernel
theorem dX9_show_22 : decode cX9_show 22 = .ok (.ireturn, 1) := by decide +kernel
theorem dX9_show_23 : decode cX9_show 23 = .ok (.aload_n 0, 1) := by decide +kernel
theorem dX9_show_24 : decode cX9_show 24 = .ok (.iconst 1, 1) := by decide +kernel
theorem dX9_show_25 : decode cX9_show 25 = .ok (.iload_n 1, 1) := by decide +kernel
theorem dX9_show_26 : decode cX9_show 26 = .ok (.ishl, 1) := by decide +kernel
theorem dX9_show_27 : decode cX9_show 27 = .ok (.iconst (-1), 1) := by decide +kernel
theorem dX9_show_28 : decode cX9_show 28 = .ok (.invokevirtual 260, 3) := by decide +kernel
theorem dX9_show_31 : decode cX9_show 31 = .ok (.ifCond .ne 5, 3) := by decide +kernel
theorem dX9_show_34 : decode cX9_show 34 = .ok (.iconst (-1), 1) := by decide +kernel
theorem dX9_show_35 : decode cX9_show 35 = .ok (.ireturn, 1) := by decide +kernel
theorem dX9_show_36 : decode cX9_show 36 = .ok (.aload_n 0, 1) := by decide +kernel
theorem dX9_show_37 : decode cX9_show 37 = .ok (.getfield 38, 3) := by decide +kernel
theorem dX9_show_40 : decode cX9_show 40 = .ok (.iload_n 2, 1) := by decide +kernel
theorem dX9_show_41 : decode cX9_show 41 = .ok (.iconst 2, 1) := by decide +kernel
theorem dX9_show_42 : decode cX9_show 42 = .ok (.iastore, 1) := by decide +kernel
theorem dX9_show_43 : decode cX9_show 43 = .ok (.aload_n 0, 1) := by decide +kernel
theorem dX9_show_44 : decode cX9_show 44 = .ok (.getfield 41, 3) := by decide +kernel
theorem dX9_show_47 : decode cX9_show 47 = .ok (.iload_n 2, 1) := by decide +kernel
theorem dX9_show_48 : decode cX9_show 48 = .ok (.aload_n 0, 1) := by decide +kernel
theorem dX9_show_49 : decode cX9_show 49 = .ok (.getfield 248, 3) := by decide +kernel
theorem dX9_show_52 : decode cX9_show 52 = .ok (.iastore, 1) := by decide +kernel
theorem dX9_show_53 : decode cX9_show 53 = .ok (.iconst 0, 1) := by decide +kernel
theorem dX9_show_54 : decode cX9_show 54 = .ok (.istore_n 3, 1) := by decide +kernel
theorem dX9_show_55 : decode cX9_show 55 = .ok (.iload_n 3, 1) := by decide +kernel
theorem dX9_show_56 : decode cX9_show 56 = .ok (.bipush 40, 2) := by decide +kernel
theorem dX9_show_58 : decode cX9_show 58 = .ok (.if_icmp .ge 38, 3) := by decide +kernel
theorem dX9_show_61 : decode cX9_show 61 = .ok (.aload_n 0, 1) := by decide +kernel
theorem dX9_show_62 : decode cX9_show 62 = .ok (.getfield 44, 3) := by decide +kernel
theorem dX9_show_65 : decode cX9_show 65 = .ok (.bipush 40, 2) := by decide +kernel
theorem dX9_show_67 : decode cX9_show 67 = .ok (.iload_n 2, 1) := by decide +kernel
theorem dX9_show_68 : decode cX9_show 68 = .ok (.imul, 1) := by decide +kernel
theorem dX9_show_69 : decode cX9_show 69 = .ok (.iload_n 3, 1) := by decide +kernel
theorem dX9_show_70 : decode cX9_show 70 = .ok (.iadd, 1) := by decide +kernel
theorem dX9_show_71 : decode cX9_show 71 = .ok (.iload_n 3, 1) := by decide +kernel
theorem dX9_show_72 : decode cX9_show 72 = .ok (.aload_n 0, 1) := by decide +kernel
theorem dX9_show_73 : decode cX9_show 73 = .ok (.getfield 248, 3) := by decide +kernel
theorem dX9_show_76 : decode cX9_show 76 = .ok (.if_icmp .ge 12, 3) := by decide +kernel
theorem dX9_show_79 : decode cX9_show 79 = .ok (.aload_n 0, 1) := by decide +kernel
theorem dX9_show_80 : decode cX9_show 80 = .ok (.getfield 75, 3) := by decide +kernel
theorem dX9_show_83 : decode cX9_show 83 = .ok (.iload_n 3, 1) := by decide +kernel
theorem dX9_show_84 : decode cX9_show 84 = .ok (.iaload, 1) := by decide +kernel
theorem dX9_show_85 : decode cX9_show 85 = .ok (.goto 4, 3) := by decide +kernel
theorem dX9_show_88 : decode cX9_show 88 = .ok (.iconst 0, 1) := by decide +kernel
theorem dX9_show_89 : decode cX9_show 89 = .ok (.iastore, 1) := by decide +kernel
theorem dX9_show_90 : decode cX9_show 90 = .ok (.iinc 3 1, 3) := by decide +kernel
theorem dX9_show_93 : decode cX9_show 93 = .ok (.goto (-38), 3) := by decide +kernel
theorem dX9_show_96 : decode cX9_show 96 = .ok (.aload_n 0, 1) := by decide +kernel
theorem dX9_show_97 : decode cX9_show 97 = .ok (.getfield 248, 3) := by decide +kernel
theorem dX9_show_100 : decode cX9_show 100 = .ok (.ireturn, 1) := by decide +kernel
theorem dX9_nextMany_0 : decode cX9_nextMany 0 = .ok (.iconst 0, 1) := by decide +kernel
theorem dX9_nextMany_1 : decode cX9_nextMany 1 = .ok (.istore_n 1, 1) := by decide +kernel
theorem dX9_nextMany_2 : decode cX9_nextMany 2 = .ok (.iconst 0, 1) := by decide +kernel
theorem dX9_nextMany_3 : decode cX9_nextMany 3 = .ok (.istore_n 2, 1) := by decide +kernel
theorem dX9_nextMany_4 : decode cX9_nextMany 4 = .ok (.iload_n 2, 1) := by decide +kernel
theorem dX9_nextMany_5 : decode cX9_nextMany 5 = .ok (.aload_n 0, 1) := by decide +kernel
theorem dX9_nextMany_6 : decode cX9_nextMany 6 = .ok (.getfield 92, 3) := by decide +kernel
theorem dX9_nextMany_9 : decode cX9_nextMany 9 = .ok (.if_icmp .ge 25, 3) := by decide +kernel
theorem dX9_nextMany_12 : decode cX9_nextMany 12 = .ok (.iload_n 1, 1) := by decide +kernel
theorem dX9_nextMany_13 : decode cX9_nextMany 13 = .ok (.aload_n 0, 1) := by decide +kernel
theorem dX9_nextMany_14 : decode cX9_nextMany 14 = .ok (.iload_n 2, 1) := by decide +kernel
theorem dX9_nextMany_15 : decode cX9_nextMany 15 = .ok (.invokevirtual 315, 3) := by decide +kernel
theorem dX9_nextMany_18 : decode cX9_nextMany 18 = .ok (.ifCond .eq 7, 3) := by decide +kernel
theorem dX9_nextMany_21 : decode cX9_nextMany 21 = .ok (.iconst 1, 1) := by decide +kernel
theorem dX9_nextMany_22 : decode cX9_nextMany 22 = .ok (.goto 4, 3) := by decide +kernel
theorem dX9_nextMany_25 : decode cX9_nextMany 25 = .ok (.iconst 0, 1) := by decide +kernel
theorem dX9_nextMany_26 : decode cX9_nextMany 26 = .ok (.iadd, 1) := by decide +kernel
theorem dX9_nextMany_27 : decode cX9_nextMany 27 = .ok (.istore_n 1, 1) := by decide +kernel
theorem dX9_nextMany_28 : decode cX9_nextMany 28 = .ok (.iinc 2 1, 3) := by decide +kernel
theorem dX9_nextMany_31 : decode cX9_nextMany 31 = .ok (.goto (-27), 3) := by decide +kernel
theorem dX9_nextMany_34 : decode cX9_nextMany 34 = .ok (.iload_n 1, 1) := by decide +kernel
theorem dX9_nextMany_35 : decode cX9_nextMany 35 = .ok (.ireturn, 1) := by decide +kernel
theorem dX9_nextOf_0 : decode cX9_nextOf 0 = .ok (.iload_n 1, 1) := by decide +kernel
theorem dX9_nextOf_1 : decode cX9_nextOf 1 = .ok (.istore_n 2, 1) := by decide +kernel
theorem dX9_nextOf_2 : decode cX9_nextOf 2 = .ok (.iconst 0, 1) := by decide +kernel
theorem dX9_nextOf_3 : decode cX9_nextOf 3 = .ok (.istore_n 3, 1) := by decide +kernel
theorem dX9_nextOf_4 : decode cX9_nextOf 4 = .ok (.iload_n 3, 1) := by decide +kernel
theorem dX9_nextOf_5 : decode cX9_nextOf 5 = .ok (.aload_n 0, 1) := by decide +kernel
theorem dX9_nextOf_6 : decode cX9_nextOf 6 = .ok (.getfield 92, 3) := by decide +kernel
theorem dX9_nextOf_9 : decode cX9_nextOf 9 = .ok (.if_icmp .ge 26, 3) := by decide +kernel
theorem dX9_nextOf_12 : decode cX9_nextOf 12 = .ok (.aload_n 0, 1) := by decide +kernel
theorem dX9_nextOf_13 : decode cX9_nextOf 13 = .ok (.iload_n 3, 1) := by decide +kernel
theorem dX9_nextOf_14 : decode cX9_nextOf 14 = .ok (.invokevirtual 315, 3) := by decide +kernel
theorem dX9_nextOf_17 : decode cX9_nextOf 17 = .ok (.ifCond .eq 12, 3) := by decide +kernel
theorem dX9_nextOf_20 : decode cX9_nextOf 20 = .ok (.iload_n 2, 1) := by decide +kernel
theorem dX9_nextOf_21 : decode cX9_nextOf 21 = .ok (.ifCond .ne 5, 3) := by decide +kernel
theorem dX9_nextOf_24 : decode cX9_nextOf 24 = .ok (.iload_n 3, 1) := by decide +kernel
theorem dX9_nextOf_25 : decode cX9_nextOf 25 = .ok (.ireturn, 1) := by decide +kernel
theorem dX9_nextOf_26 : decode cX9_nextOf 26 = .ok (.iinc 2 (-1), 3) := by decide +kernel
theorem dX9_nextOf_29 : decode cX9_nextOf 29 = .ok (.iinc 3 1, 3) := by decide +kernel
theorem dX9_nextOf_32 : decode cX9_nextOf 32 = .ok (.goto (-28), 3) := by decide +kernel
theorem dX9_nextOf_35 : decode cX9_nextOf 35 = .ok (.iconst (-1), 1) := by decide +kernel
theorem dX9_nextOf_36 : decode cX9_nextOf 36 = .ok (.ireturn, 1) := by decide +kernel
theorem dX9_draws_0 : decode cX9_draws 0 = .ok (.aload_n 0, 1) := by decide +kernel
theorem dX9_draws_1 : decode cX9_draws 1 = .ok (.invokevirtual 312, 3) := by decide +kernel
theorem dX9_draws_4 : decode cX9_draws 4 = .ok (.iload_n 1, 1) := by decide +kernel
theorem dX9_draws_5 : decode cX9_draws 5 = .ok (.i2l, 1) := by decide +kernel
theorem dX9_draws_6 : decode cX9_draws 6 = .ok (.lconst 1, 1) := by decide +kernel
theorem dX9_draws_7 : decode cX9_draws 7 = .ok (.ladd, 1) := by decide +kernel
theorem dX9_draws_8 : decode cX9_draws 8 = .ok (.lstore_n 2, 1) := by decide +kernel
theorem dX9_draws_9 : decode cX9_draws 9 = .ok (.aload_n 0, 1) := by decide +kernel
theorem dX9_draws_10 : decode cX9_draws 10 = .ok (.getfield 306, 3) := by decide +kernel
theorem dX9_draws_13 : decode cX9_draws 13 = .ok (.ifCond .eq 14, 3) := by decide +kernel
theorem dX9_draws_16 : decode cX9_draws 16 = .ok (.aload_n 0, 1) := by decide +kernel
theorem dX9_draws_17 : decode cX9_draws 17 = .ok (.getfield 303, 3) := by decide +kernel
theorem dX9_draws_20 : decode cX9_draws 20 = .ok (.aload_n 0, 1) := by decide +kernel
theorem dX9_draws_21 : decode cX9_draws 21 = .ok (.getfield 99, 3) := by decide +kernel
theorem dX9_draws_24 : decode cX9_draws 24 = .ok (.if_icmp .eq 39, 3) := by decide +kernel
theorem dX9_draws_27 : decode cX9_draws 27 = .ok (.aload_n 0, 1) := by decide +kernel
theorem dX9_draws_28 : decode cX9_draws 28 = .ok (.invokevirtual 324, 3) := by decide +kernel
theorem dX9_draws_31 : decode cX9_draws 31 = .ok (.ifCond .le 32, 3) := by decide +kernel
theorem dX9_draws_34 : decode cX9_draws 34 = .ok (.lload_n 2, 1) := by decide +kernel
theorem dX9_draws_35 : decode cX9_draws 35 = .ok (.ldc2_w 327, 3) := by decide +kernel
theorem dX9_draws_38 : decode cX9_draws 38 = .ok (.lmul, 1) := by decide +kernel
theorem dX9_draws_39 : decode cX9_draws 39 = .ok (.ldc2_w 329, 3) := by decide +kernel
theorem dX9_draws_42 : decode cX9_draws 42 = .ok (.lrem, 1) := by decide +kernel
theorem dX9_draws_43 : decode cX9_draws 43 = .ok (.lstore_n 2, 1) := by decide +kernel
theorem dX9_draws_44 : decode cX9_draws 44 = .ok (.aload_n 0, 1) := by decide +kernel
theorem dX9_draws_45 : decode cX9_draws 45 = .ok (.aload_n 0, 1) := by decide +kernel
theorem dX9_draws_46 : decode cX9_draws 46 = .ok (.lload_n 2, 1) := by decide +kernel
theorem dX9_draws_47 : decode cX9_draws 47 = .ok (.aload_n 0, 1) := by decide +kernel
theorem dX9_draws_48 : decode cX9_draws 48 = .ok (.invokevirtual 324, 3) := by decide +kernel
theorem dX9_draws_51 : decode cX9_draws 51 = .ok (.i2l, 1) := by decide +kernel
theorem dX9_draws_52 : decode cX9_draws 52 = .ok (.lrem, 1) := by decide +kernel
theorem dX9_draws_53 : decode cX9_draws 53 = .ok (.l2i, 1) := by decide +kernel
theorem dX9_draws_54 : decode cX9_draws 54 = .ok (.invokevirtual 331, 3) := by decide +kernel
theorem dX9_draws_57 : decode cX9_draws 57 = .ok (.invokevirtual 318, 3) := by decide +kernel
theorem dX9_draws_60 : decode cX9_draws 60 = .ok (.goto (-51), 3) := by decide +kernel
theorem dX9_draws_63 : decode cX9_draws 63 = .ok (.return_, 1) := by decide +kernel
theorem dX9_drawn_0 : decode cX9_drawn 0 = .ok (.iload_n 1, 1) := by decide +kernel
theorem dX9_drawn_1 : decode cX9_drawn 1 = .ok (.iconst 0, 1) := by decide +kernel
theorem dX9_drawn_2 : decode cX9_drawn 2 = .ok (.ldc_w 334, 3) := by decide +kernel
theorem dX9_drawn_5 : decode cX9_drawn 5 = .ok (.invokestatic 88, 3) := by decide +kernel
theorem dX9_drawn_8 : decode cX9_drawn 8 = .ok (.ifCond .eq 12, 3) := by decide +kernel
theorem dX9_drawn_11 : decode cX9_drawn 11 = .ok (.iload_n 2, 1) := by decide +kernel
theorem dX9_drawn_12 : decode cX9_drawn 12 = .ok (.iconst 0, 1) := by decide +kernel
theorem dX9_drawn_13 : decode cX9_drawn 13 = .ok (.iconst 2, 1) := by decide +kernel
theorem dX9_drawn_14 : decode cX9_drawn 14 = .ok (.invokestatic 88, 3) := by decide +kernel
theorem dX9_drawn_17 : decode cX9_drawn 17 = .ok (.ifCond .ne 6, 3) := by decide +kernel
theorem dX9_drawn_20 : decode cX9_drawn 20 = .ok (.bipush (-2), 2) := by decide +kernel
theorem dX9_drawn_22 : decode cX9_drawn 22 = .ok (.ireturn, 1) := by decide +kernel
theorem dX9_drawn_23 : decode cX9_drawn 23 = .ok (.aload_n 0, 1) := by decide +kernel
theorem dX9_drawn_24 : decode cX9_drawn 24 = .ok (.iload_n 1, 1) := by decide +kernel
theorem dX9_drawn_25 : decode cX9_drawn 25 = .ok (.invokevirtual 335, 3) := by decide +kernel
theorem dX9_drawn_28 : decode cX9_drawn 28 = .ok (.iload_n 2, 1) := by decide +kernel
theorem dX9_drawn_29 : decode cX9_drawn 29 = .ok (.ifCond .ne 10, 3) := by decide +kernel
theorem dX9_drawn_32 : decode cX9_drawn 32 = .ok (.aload_n 0, 1) := by decide +kernel
theorem dX9_drawn_33 : decode cX9_drawn 33 = .ok (.getfield 309, 3) := by decide +kernel
theorem dX9_drawn_36 : decode cX9_drawn 36 = .ok (.goto 22, 3) := by decide +kernel
theorem dX9_drawn_39 : decode cX9_drawn 39 = .ok (.iload_n 2, 1) := by decide +kernel
theorem dX9_drawn_40 : decode cX9_drawn 40 = .ok (.iconst 1, 1) := by decide +kernel
theorem dX9_drawn_41 : decode cX9_drawn 41 = .ok (.if_icmp .ne 10, 3) := by decide +kernel
theorem dX9_drawn_44 : decode cX9_drawn 44 = .ok (.aload_n 0, 1) := by decide +kernel
theorem dX9_drawn_45 : decode cX9_drawn 45 = .ok (.getfield 303, 3) := by decide +kernel
theorem dX9_drawn_48 : decode cX9_drawn 48 = .ok (.goto 10, 3) := by decide +kernel
theorem dX9_drawn_51 : decode cX9_drawn 51 = .ok (.aload_n 0, 1) := by decide +kernel
theorem dX9_drawn_52 : decode cX9_drawn 52 = .ok (.getfield 306, 3) := by decide +kernel
theorem dX9_drawn_55 : decode cX9_drawn 55 = .ok (.invokestatic 288, 3) := by decide +kernel
theorem dX9_drawn_58 : decode cX9_drawn 58 = .ok (.ireturn, 1) := by decide +kernel
theorem dX9_lowest_0 : decode cX9_lowest 0 = .ok (.lload_n 0, 1) := by decide +kernel
theorem dX9_lowest_1 : decode cX9_lowest 1 = .ok (.lconst 0, 1) := by decide +kernel
theorem dX9_lowest_2 : decode cX9_lowest 2 = .ok (.lcmp, 1) := by decide +kernel
theorem dX9_lowest_3 : decode cX9_lowest 3 = .ok (.ifCond .ne 7, 3) := by decide +kernel
theorem dX9_lowest_6 : decode cX9_lowest 6 = .ok (.iload 4, 2) := by decide +kernel
theorem dX9_lowest_8 : decode cX9_lowest 8 = .ok (.i2l, 1) := by decide +kernel
theorem dX9_lowest_9 : decode cX9_lowest 9 = .ok (.lreturn, 1) := by decide +kernel
theorem dX9_lowest_10 : decode cX9_lowest 10 = .ok (.lload_n 0, 1) := by decide +kernel
theorem dX9_lowest_11 : decode cX9_lowest 11 = .ok (.lstore 5, 2) := by decide +kernel
theorem dX9_lowest_13 : decode cX9_lowest 13 = .ok (.lload_n 2, 1) := by decide +kernel
theorem dX9_lowest_14 : decode cX9_lowest 14 = .ok (.lstore 7, 2) := by decide +kernel
theorem dX9_lowest_16 : decode cX9_lowest 16 = .ok (.lload 7, 2) := by decide +kernel
theorem dX9_lowest_18 : decode cX9_lowest 18 = .ok (.lconst 0, 1) := by decide +kernel
theorem dX9_lowest_19 : decode cX9_lowest 19 = .ok (.lcmp, 1) := by decide +kernel
theorem dX9_lowest_20 : decode cX9_lowest 20 = .ok (.ifCond .eq 21, 3) := by decide +kernel
theorem dX9_lowest_23 : decode cX9_lowest 23 = .ok (.lload 5, 2) := by decide +kernel
theorem dX9_lowest_25 : decode cX9_lowest 25 = .ok (.lload 7, 2) := by decide +kernel
theorem dX9_lowest_27 : decode cX9_lowest 27 = .ok (.lrem, 1) := by decide +kernel
theorem dX9_lowest_28 : decode cX9_lowest 28 = .ok (.lstore 9, 2) := by decide +kernel
theorem dX9_lowest_30 : decode cX9_lowest 30 = .ok (.lload 7, 2) := by decide +kernel
theorem dX9_lowest_32 : decode cX9_lowest 32 = .ok (.lstore 5, 2) := by decide +kernel
theorem dX9_lowest_34 : decode cX9_lowest 34 = .ok (.lload 9, 2) := by decide +kernel
theorem dX9_lowest_36 : decode cX9_lowest 36 = .ok (.lstore 7, 2) := by decide +kernel
theorem dX9_lowest_38 : decode cX9_lowest 38 = .ok (.goto (-22), 3) := by decide +kernel
theorem dX9_lowest_41 : decode cX9_lowest 41 = .ok (.iload 4, 2) := by decide +kernel
theorem dX9_lowest_43 : decode cX9_lowest 43 = .ok (.ifCond .ne 7, 3) := by decide +kernel
theorem dX9_lowest_46 : decode cX9_lowest 46 = .ok (.lload_n 0, 1) := by decide +kernel
theorem dX9_lowest_47 : decode cX9_lowest 47 = .ok (.goto 4, 3) := by decide +kernel
theorem dX9_lowest_50 : decode cX9_lowest 50 = .ok (.lload_n 2, 1) := by decide +kernel
theorem dX9_lowest_51 : decode cX9_lowest 51 = .ok (.lload 5, 2) := by decide +kernel
theorem dX9_lowest_53 : decode cX9_lowest 53 = .ok (.ldiv, 1) := by decide +kernel
theorem dX9_lowest_54 : decode cX9_lowest 54 = .ok (.lreturn, 1) := by decide +kernel
theorem dX9_odds_0 : decode cX9_odds 0 = .ok (.iload_n 1, 1) := by decide +kernel
theorem dX9_odds_1 : decode cX9_odds 1 = .ok (.iconst 0, 1) := by decide +kernel
theorem dX9_odds_2 : decode cX9_odds 2 = .ok (.ldc_w 334, 3) := by decide +kernel
theorem dX9_odds_5 : decode cX9_odds 5 = .ok (.invokestatic 88, 3) := by decide +kernel
theorem dX9_odds_8 : decode cX9_odds 8 = .ok (.ifCond .eq 32, 3) := by decide +kernel
theorem dX9_odds_11 : decode cX9_odds 11 = .ok (.iload_n 2, 1) := by decide +kernel
theorem dX9_odds_12 : decode cX9_odds 12 = .ok (.iconst 1, 1) := by decide +kernel
theorem dX9_odds_13 : decode cX9_odds 13 = .ok (.bipush 50, 2) := by decide +kernel
theorem dX9_odds_15 : decode cX9_odds 15 = .ok (.invokestatic 88, 3) := by decide +kernel
theorem dX9_odds_18 : decode cX9_odds 18 = .ok (.ifCond .eq 22, 3) := by decide +kernel
theorem dX9_odds_21 : decode cX9_odds 21 = .ok (.iload_n 3, 1) := by decide +kernel
theorem dX9_odds_22 : decode cX9_odds 22 = .ok (.iconst 0, 1) := by decide +kernel
theorem dX9_odds_23 : decode cX9_odds 23 = .ok (.iconst 1, 1) := by decide +kernel
theorem dX9_odds_24 : decode cX9_odds 24 = .ok (.invokestatic 88, 3) := by decide +kernel
theorem dX9_odds_27 : decode cX9_odds 27 = .ok (.ifCond .eq 13, 3) := by decide +kernel
theorem dX9_odds_30 : decode cX9_odds 30 = .ok (.iload 4, 2) := by decide +kernel
theorem dX9_odds_32 : decode cX9_odds 32 = .ok (.iconst 0, 1) := by decide +kernel
theorem dX9_odds_33 : decode cX9_odds 33 = .ok (.iconst 1, 1) := by decide +kernel
theorem dX9_odds_34 : decode cX9_odds 34 = .ok (.invokestatic 88, 3) := by decide +kernel
theorem dX9_odds_37 : decode cX9_odds 37 = .ok (.ifCond .ne 7, 3) := by decide +kernel
theorem dX9_odds_40 : decode cX9_odds 40 = .ok (.ldc2_w 338, 3) := by decide +kernel
theorem dX9_odds_43 : decode cX9_odds 43 = .ok (.lreturn, 1) := by decide +kernel
theorem dX9_odds_44 : decode cX9_odds 44 = .ok (.lconst 0, 1) := by decide +kernel
theorem dX9_odds_45 : decode cX9_odds 45 = .ok (.lstore 5, 2) := by decide +kernel
theorem dX9_odds_47 : decode cX9_odds 47 = .ok (.iconst 0, 1) := by decide +kernel
theorem dX9_odds_48 : decode cX9_odds 48 = .ok (.istore 7, 2) := by decide +kernel
theorem dX9_odds_50 : decode cX9_odds 50 = .ok (.iload 7, 2) := by decide +kernel
theorem dX9_odds_52 : decode cX9_odds 52 = .ok (.iload_n 2, 1) := by decide +kernel
theorem dX9_odds_53 : decode cX9_odds 53 = .ok (.if_icmp .ge 61, 3) := by decide +kernel
theorem dX9_odds_56 : decode cX9_odds 56 = .ok (.aload_n 0, 1) := by decide +kernel
theorem dX9_odds_57 : decode cX9_odds 57 = .ok (.iload_n 1, 1) := by decide +kernel
theorem dX9_odds_58 : decode cX9_odds 58 = .ok (.iload 7, 2) := by decide +kernel
theorem dX9_odds_60 : decode cX9_odds 60 = .ok (.iadd, 1) := by decide +kernel
theorem dX9_odds_61 : decode cX9_odds 61 = .ok (.invokevirtual 335, 3) := by decide +kernel
theorem dX9_odds_64 : decode cX9_odds 64 = .ok (.lload 5, 2) := by decide +kernel
theorem dX9_odds_66 : decode cX9_odds 66 = .ok (.iload_n 3, 1) := by decide +kernel
theorem dX9_odds_67 : decode cX9_odds 67 = .ok (.iconst 1, 1) := by decide +kernel
theorem dX9_odds_68 : decode cX9_odds 68 = .ok (.if_icmp .ne 14, 3) := by decide +kernel
theorem dX9_odds_71 : decode cX9_odds 71 = .ok (.aload_n 0, 1) := by decide +kernel
theorem dX9_odds_72 : decode cX9_odds 72 = .ok (.getfield 306, 3) := by decide +kernel
theorem dX9_odds_75 : decode cX9_odds 75 = .ok (.invokestatic 288, 3) := by decide +kernel
theorem dX9_odds_78 : decode cX9_odds 78 = .ok (.i2l, 1) := by decide +kernel
theorem dX9_odds_79 : decode cX9_odds 79 = .ok (.goto 26, 3) := by decide +kernel
theorem dX9_odds_82 : decode cX9_odds 82 = .ok (.aload_n 0, 1) := by decide +kernel
theorem dX9_odds_83 : decode cX9_odds 83 = .ok (.getfield 306, 3) := by decide +kernel
theorem dX9_odds_86 : decode cX9_odds 86 = .ok (.ifCond .eq 18, 3) := by decide +kernel
theorem dX9_odds_89 : decode cX9_odds 89 = .ok (.aload_n 0, 1) := by decide +kernel
theorem dX9_odds_90 : decode cX9_odds 90 = .ok (.getfield 303, 3) := by decide +kernel
theorem dX9_odds_93 : decode cX9_odds 93 = .ok (.aload_n 0, 1) := by decide +kernel
theorem dX9_odds_94 : decode cX9_odds 94 = .ok (.getfield 99, 3) := by decide +kernel
theorem dX9_odds_97 : decode cX9_odds 97 = .ok (.if_icmp .ne 7, 3) := by decide +kernel
theorem dX9_odds_100 : decode cX9_odds 100 = .ok (.lconst 1, 1) := by decide +kernel
theorem dX9_odds_101 : decode cX9_odds 101 = .ok (.goto 4, 3) := by decide +kernel
theorem dX9_odds_104 : decode cX9_odds 104 = .ok (.lconst 0, 1) := by decide +kernel
theorem dX9_odds_105 : decode cX9_odds 105 = .ok (.ladd, 1) := by decide +kernel
theorem dX9_odds_106 : decode cX9_odds 106 = .ok (.lstore 5, 2) := by decide +kernel
theorem dX9_odds_108 : decode cX9_odds 108 = .ok (.iinc 7 1, 3) := by decide +kernel
theorem dX9_odds_111 : decode cX9_odds 111 = .ok (.goto (-61), 3) := by decide +kernel
theorem dX9_odds_114 : decode cX9_odds 114 = .ok (.lload 5, 2) := by decide +kernel
theorem dX9_odds_116 : decode cX9_odds 116 = .ok (.iload_n 2, 1) := by decide +kernel
theorem dX9_odds_117 : decode cX9_odds 117 = .ok (.i2l, 1) := by decide +kernel
theorem dX9_odds_118 : decode cX9_odds 118 = .ok (.iload 4, 2) := by decide +kernel
theorem dX9_odds_120 : decode cX9_odds 120 = .ok (.invokestatic 340, 3) := by decide +kernel
theorem dX9_odds_123 : decode cX9_odds 123 = .ok (.lreturn, 1) := by decide +kernel
theorem dX9_image_0 : decode cX9_image 0 = .ok (.aload_n 0, 1) := by decide +kernel
theorem dX9_image_1 : decode cX9_image 1 = .ok (.iconst 1, 1) := by decide +kernel
theorem dX9_image_2 : decode cX9_image 2 = .ok (.putfield 177, 3) := by decide +kernel
theorem dX9_image_5 : decode cX9_image 5 = .ok (.aload_n 0, 1) := by decide +kernel
theorem dX9_image_6 : decode cX9_image 6 = .ok (.aload_n 0, 1) := by decide +kernel
theorem dX9_image_7 : decode cX9_image 7 = .ok (.getfield 99, 3) := by decide +kernel
theorem dX9_image_10 : decode cX9_image 10 = .ok (.putfield 344, 3) := by decide +kernel
theorem dX9_image_13 : decode cX9_image 13 = .ok (.aload_n 0, 1) := by decide +kernel
theorem dX9_image_14 : decode cX9_image 14 = .ok (.aload_n 0, 1) := by decide +kernel
theorem dX9_image_15 : decode cX9_image 15 = .ok (.getfield 7, 3) := by decide +kernel
theorem dX9_image_18 : decode cX9_image 18 = .ok (.putfield 347, 3) := by decide +kernel
theorem dX9_image_21 : decode cX9_image 21 = .ok (.aload_n 0, 1) := by decide +kernel
theorem dX9_image_22 : decode cX9_image 22 = .ok (.aload_n 0, 1) := by decide +kernel
theorem dX9_image_23 : decode cX9_image 23 = .ok (.getfield 102, 3) := by decide +kernel
theorem dX9_image_26 : decode cX9_image 26 = .ok (.putfield 350, 3) := by decide +kernel
theorem dX9_image_29 : decode cX9_image 29 = .ok (.aload_n 0, 1) := by decide +kernel
theorem dX9_image_30 : decode cX9_image 30 = .ok (.aload_n 0, 1) := by decide +kernel
theorem dX9_image_31 : decode cX9_image 31 = .ok (.getfield 105, 3) := by decide +kernel
theorem dX9_image_34 : decode cX9_image 34 = .ok (.putfield 353, 3) := by decide +kernel
theorem dX9_image_37 : decode cX9_image 37 = .ok (.aload_n 0, 1) := by decide +kernel
theorem dX9_image_38 : decode cX9_image 38 = .ok (.aload_n 0, 1) := by decide +kernel
theorem dX9_image_39 : decode cX9_image 39 = .ok (.getfield 92, 3) := by decide +kernel
theorem dX9_image_42 : decode cX9_image 42 = .ok (.putfield 181, 3) := by decide +kernel
theorem dX9_image_45 : decode cX9_image 45 = .ok (.aload_n 0, 1) := by decide +kernel
theorem dX9_image_46 : decode cX9_image 46 = .ok (.aload_n 0, 1) := by decide +kernel
theorem dX9_image_47 : decode cX9_image 47 = .ok (.getfield 111, 3) := by decide +kernel
theorem dX9_image_50 : decode cX9_image 50 = .ok (.putfield 356, 3) := by decide +kernel
theorem dX9_image_53 : decode cX9_image 53 = .ok (.aload_n 0, 1) := by decide +kernel
theorem dX9_image_54 : decode cX9_image 54 = .ok (.getfield 92, 3) := by decide +kernel
theorem dX9_image_57 : decode cX9_image 57 = .ok (.ireturn, 1) := by decide +kernel
theorem dX9_back_0 : decode cX9_back 0 = .ok (.aload_n 0, 1) := by decide +kernel
theorem dX9_back_1 : decode cX9_back 1 = .ok (.getfield 177, 3) := by decide +kernel
theorem dX9_back_4 : decode cX9_back 4 = .ok (.ifCond .ne 6, 3) := by decide +kernel
theorem dX9_back_7 : decode cX9_back 7 = .ok (.bipush (-3), 2) := by decide +kernel
theorem dX9_back_9 : decode cX9_back 9 = .ok (.ireturn, 1) := by decide +kernel
theorem dX9_back_10 : decode cX9_back 10 = .ok (.aload_n 0, 1) := by decide +kernel
theorem dX9_back_11 : decode cX9_back 11 = .ok (.aload_n 0, 1) := by decide +kernel
theorem dX9_back_12 : decode cX9_back 12 = .ok (.getfield 344, 3) := by decide +kernel
theorem dX9_back_15 : decode cX9_back 15 = .ok (.putfield 99, 3) := by decide +kernel
theorem dX9_back_18 : decode cX9_back 18 = .ok (.aload_n 0, 1) := by decide +kernel
theorem dX9_back_19 : decode cX9_back 19 = .ok (.aload_n 0, 1) := by decide +kernel
theorem dX9_back_20 : decode cX9_back 20 = .ok (.getfield 347, 3) := by decide +kernel
theorem dX9_back_23 : decode cX9_back 23 = .ok (.putfield 7, 3) := by decide +kernel
theorem dX9_back_26 : decode cX9_back 26 = .ok (.aload_n 0, 1) := by decide +kernel
theorem dX9_back_27 : decode cX9_back 27 = .ok (.aload_n 0, 1) := by decide +kernel
theorem dX9_back_28 : decode cX9_back 28 = .ok (.getfield 350, 3) := by decide +kernel
theorem dX9_back_31 : decode cX9_back 31 = .ok (.putfield 102, 3) := by decide +kernel
theorem dX9_back_34 : decode cX9_back 34 = .ok (.aload_n 0, 1) := by decide +kernel
theorem dX9_back_35 : decode cX9_back 35 = .ok (.aload_n 0, 1) := by decide +kernel
theorem dX9_back_36 : decode cX9_back 36 = .ok (.getfield 353, 3) := by decide +kernel
theorem dX9_back_39 : decode cX9_back 39 = .ok (.putfield 105, 3) := by decide +kernel
theorem dX9_back_42 : decode cX9_back 42 = .ok (.aload_n 0, 1) := by decide +kernel
theorem dX9_back_43 : decode cX9_back 43 = .ok (.aload_n 0, 1) := by decide +kernel
theorem dX9_back_44 : decode cX9_back 44 = .ok (.getfield 181, 3) := by decide +kernel
theorem dX9_back_47 : decode cX9_back 47 = .ok (.putfield 92, 3) := by decide +kernel
theorem dX9_back_50 : decode cX9_back 50 = .ok (.aload_n 0, 1) := by decide +kernel
theorem dX9_back_51 : decode cX9_back 51 = .ok (.aload_n 0, 1) := by decide +kernel
theorem dX9_back_52 : decode cX9_back 52 = .ok (.getfield 356, 3) := by decide +kernel
theorem dX9_back_55 : decode cX9_back 55 = .ok (.putfield 111, 3) := by decide +kernel
theorem dX9_back_58 : decode cX9_back 58 = .ok (.aload_n 0, 1) := by decide +kernel
theorem dX9_back_59 : decode cX9_back 59 = .ok (.getfield 92, 3) := by decide +kernel
theorem dX9_back_62 : decode cX9_back 62 = .ok (.ireturn, 1) := by decide +kernel
theorem dX9_sheet_0 : decode cX9_sheet 0 = .ok (.iload_n 1, 1) := by decide +kernel
theorem dX9_sheet_1 : decode cX9_sheet 1 = .ok (.iconst 0, 1) := by decide +kernel
theorem dX9_sheet_2 : decode cX9_sheet 2 = .ok (.iconst 3, 1) := by decide +kernel
theorem dX9_sheet_3 : decode cX9_sheet 3 = .ok (.invokestatic 88, 3) := by decide +kernel
theorem dX9_sheet_6 : decode cX9_sheet 6 = .ok (.ifCond .eq 23, 3) := by decide +kernel
theorem dX9_sheet_9 : decode cX9_sheet 9 = .ok (.iload_n 2, 1) := by decide +kernel
theorem dX9_sheet_10 : decode cX9_sheet 10 = .ok (.iconst (-1), 1) := by decide +kernel
theorem dX9_sheet_11 : decode cX9_sheet 11 = .ok (.iconst 2, 1) := by decide +kernel
theorem dX9_sheet_12 : decode cX9_sheet 12 = .ok (.invokestatic 88, 3) := by decide +kernel
theorem dX9_sheet_15 : decode cX9_sheet 15 = .ok (.ifCond .eq 14, 3) := by decide +kernel
theorem dX9_sheet_18 : decode cX9_sheet 18 = .ok (.iload_n 2, 1) := by decide +kernel
theorem dX9_sheet_19 : decode cX9_sheet 19 = .ok (.iconst (-1), 1) := by decide +kernel
theorem dX9_sheet_20 : decode cX9_sheet 20 = .ok (.if_icmp .eq 12, 3) := by decide +kernel
theorem dX9_sheet_23 : decode cX9_sheet 23 = .ok (.iload_n 3, 1) := by decide +kernel
theorem dX9_sheet_24 : decode cX9_sheet 24 = .ok (.bipush 40, 2) := by decide +kernel
theorem dX9_sheet_26 : decode cX9_sheet 26 = .ok (.if_icmp .le 6, 3) := by decide +kernel
theorem dX9_sheet_29 : decode cX9_sheet 29 = .ok (.bipush (-2), 2) := by decide +kernel
theorem dX9_sheet_31 : decode cX9_sheet 31 = .ok (.ireturn, 1) := by decide +kernel
theorem dX9_sheet_32 : decode cX9_sheet 32 = .ok (.iload_n 2, 1) := by decide +kernel
theorem dX9_sheet_33 : decode cX9_sheet 33 = .ok (.iconst (-1), 1) := by decide +kernel
theorem dX9_sheet_34 : decode cX9_sheet 34 = .ok (.if_icmp .eq 10, 3) := by decide +kernel
theorem dX9_sheet_37 : decode cX9_sheet 37 = .ok (.iload_n 3, 1) := by decide +kernel
theorem dX9_sheet_38 : decode cX9_sheet 38 = .ok (.ifCond .ge 6, 3) := by decide +kernel
theorem dX9_sheet_41 : decode cX9_sheet 41 = .ok (.bipush (-14), 2) := by decide +kernel
theorem dX9_sheet_43 : decode cX9_sheet 43 = .ok (.ireturn, 1) := by decide +kernel
theorem dX9_sheet_44 : decode cX9_sheet 44 = .ok (.aload_n 0, 1) := by decide +kernel
theorem dX9_sheet_45 : decode cX9_sheet 45 = .ok (.getfield 38, 3) := by decide +kernel
theorem dX9_sheet_48 : decode cX9_sheet 48 = .ok (.iload_n 1, 1) := by decide +kernel
theorem dX9_sheet_49 : decode cX9_sheet 49 = .ok (.iload_n 2, 1) := by decide +kernel
theorem dX9_sheet_50 : decode cX9_sheet 50 = .ok (.iastore, 1) := by decide +kernel
theorem dX9_sheet_51 : decode cX9_sheet 51 = .ok (.aload_n 0, 1) := by decide +kernel
theorem dX9_sheet_52 : decode cX9_sheet 52 = .ok (.getfield 41, 3) := by decide +kernel
theorem dX9_sheet_55 : decode cX9_sheet 55 = .ok (.iload_n 1, 1) := by decide +kernel
theorem dX9_sheet_56 : decode cX9_sheet 56 = .ok (.iload_n 2, 1) := by decide +kernel
theorem dX9_sheet_57 : decode cX9_sheet 57 = .ok (.iconst (-1), 1) := by decide +kernel
theorem dX9_sheet_58 : decode cX9_sheet 58 = .ok (.if_icmp .ne 7, 3) := by decide +kernel
theorem dX9_sheet_61 : decode cX9_sheet 61 = .ok (.iconst 0, 1) := by decide +kernel
theorem dX9_sheet_62 : decode cX9_sheet 62 = .ok (.goto 4, 3) := by decide +kernel
theorem dX9_sheet_65 : decode cX9_sheet 65 = .ok (.iload_n 3, 1) := by decide +kernel
theorem dX9_sheet_66 : decode cX9_sheet 66 = .ok (.iastore, 1) := by decide +kernel
theorem dX9_sheet_67 : decode cX9_sheet 67 = .ok (.iconst 0, 1) := by decide +kernel
theorem dX9_sheet_68 : decode cX9_sheet 68 = .ok (.istore 4, 2) := by decide +kernel
theorem dX9_sheet_70 : decode cX9_sheet 70 = .ok (.iload 4, 2) := by decide +kernel
theorem dX9_sheet_72 : decode cX9_sheet 72 = .ok (.bipush 40, 2) := by decide +kernel
theorem dX9_sheet_74 : decode cX9_sheet 74 = .ok (.if_icmp .ge 22, 3) := by decide +kernel
theorem dX9_sheet_77 : decode cX9_sheet 77 = .ok (.aload_n 0, 1) := by decide +kernel
theorem dX9_sheet_78 : decode cX9_sheet 78 = .ok (.getfield 44, 3) := by decide +kernel
theorem dX9_sheet_81 : decode cX9_sheet 81 = .ok (.bipush 40, 2) := by decide +kernel
theorem dX9_sheet_83 : decode cX9_sheet 83 = .ok (.iload_n 1, 1) := by decide +kernel
theorem dX9_sheet_84 : decode cX9_sheet 84 = .ok (.imul, 1) := by decide +kernel
theorem dX9_sheet_85 : decode cX9_sheet 85 = .ok (.iload 4, 2) := by decide +kernel
theorem dX9_sheet_87 : decode cX9_sheet 87 = .ok (.iadd, 1) := by decide +kernel
theorem dX9_sheet_88 : decode cX9_sheet 88 = .ok (.iconst 0, 1) := by decide +kernel
theorem dX9_sheet_89 : decode cX9_sheet 89 = .ok (.iastore, 1) := by decide +kernel
theorem dX9_sheet_90 : decode cX9_sheet 90 = .ok (.iinc 4 1, 3) := by decide +kernel
theorem dX9_sheet_93 : decode cX9_sheet 93 = .ok (.goto (-23), 3) := by decide +kernel
theorem dX9_sheet_96 : decode cX9_sheet 96 = .ok (.iconst 1, 1) := by decide +kernel
theorem dX9_sheet_97 : decode cX9_sheet 97 = .ok (.ireturn, 1) := by decide +kernel
theorem dX9_cell_0 : decode cX9_cell 0 = .ok (.iload_n 1, 1) := by decide +kernel
theorem dX9_cell_1 : decode cX9_cell 1 = .ok (.iconst 0, 1) := by decide +kernel
theorem dX9_cell_2 : decode cX9_cell 2 = .ok (.iconst 3, 1) := by decide +kernel
theorem dX9_cell_3 : decode cX9_cell 3 = .ok (.invokestatic 88, 3) := by decide +kernel
theorem dX9_cell_6 : decode cX9_cell 6 = .ok (.ifCond .ne 6, 3) := by decide +kernel
theorem dX9_cell_9 : decode cX9_cell 9 = .ok (.bipush (-2), 2) := by decide +kernel
theorem dX9_cell_11 : decode cX9_cell 11 = .ok (.ireturn, 1) := by decide +kernel
theorem dX9_cell_12 : decode cX9_cell 12 = .ok (.aload_n 0, 1) := by decide +kernel
theorem dX9_cell_13 : decode cX9_cell 13 = .ok (.getfield 38, 3) := by decide +kernel
theorem dX9_cell_16 : decode cX9_cell 16 = .ok (.iload_n 1, 1) := by decide +kernel
theorem dX9_cell_17 : decode cX9_cell 17 = .ok (.iaload, 1) := by decide +kernel
theorem dX9_cell_18 : decode cX9_cell 18 = .ok (.iconst (-1), 1) := by decide +kernel
theorem dX9_cell_19 : decode cX9_cell 19 = .ok (.if_icmp .ne 6, 3) := by decide +kernel
theorem dX9_cell_22 : decode cX9_cell 22 = .ok (.bipush (-11), 2) := by decide +kernel
theorem dX9_cell_24 : decode cX9_cell 24 = .ok (.ireturn, 1) := by decide +kernel
theorem dX9_cell_25 : decode cX9_cell 25 = .ok (.iload_n 2, 1) := by decide +kernel
theorem dX9_cell_26 : decode cX9_cell 26 = .ok (.iconst 0, 1) := by decide +kernel
theorem dX9_cell_27 : decode cX9_cell 27 = .ok (.aload_n 0, 1) := by decide +kernel
theorem dX9_cell_28 : decode cX9_cell 28 = .ok (.getfield 41, 3) := by decide +kernel
theorem dX9_cell_31 : decode cX9_cell 31 = .ok (.iload_n 1, 1) := by decide +kernel
theorem dX9_cell_32 : decode cX9_cell 32 = .ok (.iaload, 1) := by decide +kernel
theorem dX9_cell_33 : decode cX9_cell 33 = .ok (.iconst 1, 1) := by decide +kernel
theorem dX9_cell_34 : decode cX9_cell 34 = .ok (.isub, 1) := by decide +kernel
theorem dX9_cell_35 : decode cX9_cell 35 = .ok (.invokestatic 88, 3) := by decide +kernel
theorem dX9_cell_38 : decode cX9_cell 38 = .ok (.ifCond .ne 6, 3) := by decide +kernel
theorem dX9_cell_41 : decode cX9_cell 41 = .ok (.bipush (-12), 2) := by decide +kernel
theorem dX9_cell_43 : decode cX9_cell 43 = .ok (.ireturn, 1) := by decide +kernel
theorem dX9_cell_44 : decode cX9_cell 44 = .ok (.aload_n 0, 1) := by decide +kernel
theorem dX9_cell_45 : decode cX9_cell 45 = .ok (.getfield 44, 3) := by decide +kernel
theorem dX9_cell_48 : decode cX9_cell 48 = .ok (.bipush 40, 2) := by decide +kernel
theorem dX9_cell_50 : decode cX9_cell 50 = .ok (.iload_n 1, 1) := by decide +kernel
theorem dX9_cell_51 : decode cX9_cell 51 = .ok (.imul, 1) := by decide +kernel
theorem dX9_cell_52 : decode cX9_cell 52 = .ok (.iload_n 2, 1) := by decide +kernel
theorem dX9_cell_53 : decode cX9_cell 53 = .ok (.iadd, 1) := by decide +kernel
theorem dX9_cell_54 : decode cX9_cell 54 = .ok (.aload_n 0, 1) := by decide +kernel
theorem dX9_cell_55 : decode cX9_cell 55 = .ok (.getfield 38, 3) := by decide +kernel
theorem dX9_cell_58 : decode cX9_cell 58 = .ok (.iload_n 1, 1) := by decide +kernel
theorem dX9_cell_59 : decode cX9_cell 59 = .ok (.iaload, 1) := by decide +kernel
theorem dX9_cell_60 : decode cX9_cell 60 = .ok (.ifCond .ne 8, 3) := by decide +kernel
theorem dX9_cell_63 : decode cX9_cell 63 = .ok (.iload_n 3, 1) := by decide +kernel
theorem dX9_cell_64 : decode cX9_cell 64 = .ok (.i2b, 1) := by decide +kernel
theorem dX9_cell_65 : decode cX9_cell 65 = .ok (.goto 19, 3) := by decide +kernel
theorem dX9_cell_68 : decode cX9_cell 68 = .ok (.aload_n 0, 1) := by decide +kernel
theorem dX9_cell_69 : decode cX9_cell 69 = .ok (.getfield 38, 3) := by decide +kernel
theorem dX9_cell_72 : decode cX9_cell 72 = .ok (.iload_n 1, 1) := by decide +kernel
theorem dX9_cell_73 : decode cX9_cell 73 = .ok (.iaload, 1) := by decide +kernel
theorem dX9_cell_74 : decode cX9_cell 74 = .ok (.iconst 1, 1) := by decide +kernel
theorem dX9_cell_75 : decode cX9_cell 75 = .ok (.if_icmp .ne 8, 3) := by decide +kernel
theorem dX9_cell_78 : decode cX9_cell 78 = .ok (.iload_n 3, 1) := by decide +kernel
theorem dX9_cell_79 : decode cX9_cell 79 = .ok (.i2s, 1) := by decide +kernel
theorem dX9_cell_80 : decode cX9_cell 80 = .ok (.goto 4, 3) := by decide +kernel
theorem dX9_cell_83 : decode cX9_cell 83 = .ok (.iload_n 3, 1) := by decide +kernel
theorem dX9_cell_84 : decode cX9_cell 84 = .ok (.iastore, 1) := by decide +kernel
theorem dX9_cell_85 : decode cX9_cell 85 = .ok (.iconst 1, 1) := by decide +kernel
theorem dX9_cell_86 : decode cX9_cell 86 = .ok (.ireturn, 1) := by decide +kernel
theorem dX9_copy_0 : decode cX9_copy 0 = .ok (.iload_n 1, 1) := by decide +kernel
theorem dX9_copy_1 : decode cX9_copy 1 = .ok (.iconst 0, 1) := by decide +kernel
theorem dX9_copy_2 : decode cX9_copy 2 = .ok (.iconst 3, 1) := by decide +kernel
theorem dX9_copy_3 : decode cX9_copy 3 = .ok (.invokestatic 88, 3) := by decide +kernel
theorem dX9_copy_6 : decode cX9_copy 6 = .ok (.ifCond .eq 12, 3) := by decide +kernel
theorem dX9_copy_9 : decode cX9_copy 9 = .ok (.iload_n 3, 1) := by decide +kernel
theorem dX9_copy_10 : decode cX9_copy 10 = .ok (.iconst 0, 1) := by decide +kernel
theorem dX9_copy_11 : decode cX9_copy 11 = .ok (.iconst 3, 1) := by decide +kernel
theorem dX9_copy_12 : decode cX9_copy 12 = .ok (.invokestatic 88, 3) := by decide +kernel
theorem dX9_copy_15 : decode cX9_copy 15 = .ok (.ifCond .ne 6, 3) := by decide +kernel
theorem dX9_copy_18 : decode cX9_copy 18 = .ok (.bipush (-2), 2) := by decide +kernel
theorem dX9_copy_20 : decode cX9_copy 20 = .ok (.ireturn, 1) := by decide +kernel
theorem dX9_copy_21 : decode cX9_copy 21 = .ok (.aload_n 0, 1) := by decide +kernel
theorem dX9_copy_22 : decode cX9_copy 22 = .ok (.getfield 38, 3) := by decide +kernel
theorem dX9_copy_25 : decode cX9_copy 25 = .ok (.iload_n 1, 1) := by decide +kernel
theorem dX9_copy_26 : decode cX9_copy 26 = .ok (.iaload, 1) := by decide +kernel
theorem dX9_copy_27 : decode cX9_copy 27 = .ok (.iconst (-1), 1) := by decide +kernel
theorem dX9_copy_28 : decode cX9_copy 28 = .ok (.if_icmp .eq 13, 3) := by decide +kernel
theorem dX9_copy_31 : decode cX9_copy 31 = .ok (.aload_n 0, 1) := by decide +kernel
theorem dX9_copy_32 : decode cX9_copy 32 = .ok (.getfield 38, 3) := by decide +kernel
theorem dX9_copy_35 : decode cX9_copy 35 = .ok (.iload_n 3, 1) := by decide +kernel
theorem dX9_copy_36 : decode cX9_copy 36 = .ok (.iaload, 1) := by decide +kernel
theorem dX9_copy_37 : decode cX9_copy 37 = .ok (.iconst (-1), 1) := by decide +kernel
theorem dX9_copy_38 : decode cX9_copy 38 = .ok (.if_icmp .ne 6, 3) := by decide +kernel
theorem dX9_copy_41 : decode cX9_copy 41 = .ok (.bipush (-11), 2) := by decide +kernel
theorem dX9_copy_43 : decode cX9_copy 43 = .ok (.ireturn, 1) := by decide +kernel
theorem dX9_copy_44 : decode cX9_copy 44 = .ok (.aload_n 0, 1) := by decide +kernel
theorem dX9_copy_45 : decode cX9_copy 45 = .ok (.getfield 38, 3) := by decide +kernel
theorem dX9_copy_48 : decode cX9_copy 48 = .ok (.iload_n 1, 1) := by decide +kernel
theorem dX9_copy_49 : decode cX9_copy 49 = .ok (.iaload, 1) := by decide +kernel
theorem dX9_copy_50 : decode cX9_copy 50 = .ok (.aload_n 0, 1) := by decide +kernel
theorem dX9_copy_51 : decode cX9_copy 51 = .ok (.getfield 38, 3) := by decide +kernel
theorem dX9_copy_54 : decode cX9_copy 54 = .ok (.iload_n 3, 1) := by decide +kernel
theorem dX9_copy_55 : decode cX9_copy 55 = .ok (.iaload, 1) := by decide +kernel
theorem dX9_copy_56 : decode cX9_copy 56 = .ok (.if_icmp .eq 6, 3) := by decide +kernel
theorem dX9_copy_59 : decode cX9_copy 59 = .ok (.bipush (-13), 2) := by decide +kernel
theorem dX9_copy_61 : decode cX9_copy 61 = .ok (.ireturn, 1) := by decide +kernel
theorem dX9_copy_62 : decode cX9_copy 62 = .ok (.iload 5, 2) := by decide +kernel
theorem dX9_copy_64 : decode cX9_copy 64 = .ok (.ifCond .lt 60, 3) := by decide +kernel
theorem dX9_copy_67 : decode cX9_copy 67 = .ok (.iload_n 2, 1) := by decide +kernel
theorem dX9_copy_68 : decode cX9_copy 68 = .ok (.ifCond .lt 56, 3) := by decide +kernel
theorem dX9_copy_71 : decode cX9_copy 71 = .ok (.iload 4, 2) := by decide +kernel
theorem dX9_copy_73 : decode cX9_copy 73 = .ok (.ifCond .lt 51, 3) := by decide +kernel
theorem dX9_copy_76 : decode cX9_copy 76 = .ok (.iload_n 2, 1) := by decide +kernel
theorem dX9_copy_77 : decode cX9_copy 77 = .ok (.aload_n 0, 1) := by decide +kernel
theorem dX9_copy_78 : decode cX9_copy 78 = .ok (.getfield 41, 3) := by decide +kernel
theorem dX9_copy_81 : decode cX9_copy 81 = .ok (.iload_n 1, 1) := by decide +kernel
theorem dX9_copy_82 : decode cX9_copy 82 = .ok (.iaload, 1) := by decide +kernel
theorem dX9_copy_83 : decode cX9_copy 83 = .ok (.if_icmp .gt 41, 3) := by decide +kernel
theorem dX9_copy_86 : decode cX9_copy 86 = .ok (.iload 4, 2) := by decide +kernel
theorem dX9_copy_88 : decode cX9_copy 88 = .ok (.aload_n 0, 1) := by decide +kernel
theorem dX9_copy_89 : decode cX9_copy 89 = .ok (.getfield 41, 3) := by decide +kernel
theorem dX9_copy_92 : decode cX9_copy 92 = .ok (.iload_n 3, 1) := by decide +kernel
theorem dX9_copy_93 : decode cX9_copy 93 = .ok (.iaload, 1) := by decide +kernel
theorem dX9_copy_94 : decode cX9_copy 94 = .ok (.if_icmp .gt 30, 3) := by decide +kernel
theorem dX9_copy_97 : decode cX9_copy 97 = .ok (.iload 5, 2) := by decide +kernel
theorem dX9_copy_99 : decode cX9_copy 99 = .ok (.aload_n 0, 1) := by decide +kernel
theorem dX9_copy_100 : decode cX9_copy 100 = .ok (.getfield 41, 3) := by decide +kernel
theorem dX9_copy_103 : decode cX9_copy 103 = .ok (.iload_n 1, 1) := by decide +kernel
theorem dX9_copy_104 : decode cX9_copy 104 = .ok (.iaload, 1) := by decide +kernel
theorem dX9_copy_105 : decode cX9_copy 105 = .ok (.iload_n 2, 1) := by decide +kernel
theorem dX9_copy_106 : decode cX9_copy 106 = .ok (.isub, 1) := by decide +kernel
theorem dX9_copy_107 : decode cX9_copy 107 = .ok (.if_icmp .gt 17, 3) := by decide +kernel
theorem dX9_copy_110 : decode cX9_copy 110 = .ok (.iload 5, 2) := by decide +kernel
theorem dX9_copy_112 : decode cX9_copy 112 = .ok (.aload_n 0, 1) := by decide +kernel
theorem dX9_copy_113 : decode cX9_copy 113 = .ok (.getfield 41, 3) := by decide +kernel
theorem dX9_copy_116 : decode cX9_copy 116 = .ok (.iload_n 3, 1) := by decide +kernel
theorem dX9_copy_117 : decode cX9_copy 117 = .ok (.iaload, 1) := by decide +kernel
theorem dX9_copy_118 : decode cX9_copy 118 = .ok (.iload 4, 2) := by decide +kernel
theorem dX9_copy_120 : decode cX9_copy 120 = .ok (.isub, 1) := by decide +kernel
theorem dX9_copy_121 : decode cX9_copy 121 = .ok (.if_icmp .le 6, 3) := by decide +kernel
theorem dX9_copy_124 : decode cX9_copy 124 = .ok (.bipush (-12), 2) := by decide +kernel
theorem dX9_copy_126 : decode cX9_copy 126 = .ok (.ireturn, 1) := by decide +kernel
theorem dX9_copy_127 : decode cX9_copy 127 = .ok (.bipush 40, 2) := by decide +kernel
theorem dX9_copy_129 : decode cX9_copy 129 = .ok (.iload_n 1, 1) := by decide +kernel
theorem dX9_copy_130 : decode cX9_copy 130 = .ok (.imul, 1) := by decide +kernel
theorem dX9_copy_131 : decode cX9_copy 131 = .ok (.iload_n 2, 1) := by decide +kernel
theorem dX9_copy_132 : decode cX9_copy 132 = .ok (.iadd, 1) := by decide +kernel
theorem dX9_copy_133 : decode cX9_copy 133 = .ok (.istore 6, 2) := by decide +kernel
theorem dX9_copy_135 : decode cX9_copy 135 = .ok (.bipush 40, 2) := by decide +kernel
theorem dX9_copy_137 : decode cX9_copy 137 = .ok (.iload_n 3, 1) := by decide +kernel
theorem dX9_copy_138 : decode cX9_copy 138 = .ok (.imul, 1) := by decide +kernel
theorem dX9_copy_139 : decode cX9_copy 139 = .ok (.iload 4, 2) := by decide +kernel
theorem dX9_copy_141 : decode cX9_copy 141 = .ok (.iadd, 1) := by decide +kernel
theorem dX9_copy_142 : decode cX9_copy 142 = .ok (.istore 7, 2) := by decide +kernel
theorem dX9_copy_144 : decode cX9_copy 144 = .ok (.iconst 0, 1) := by decide +kernel
theorem dX9_copy_145 : decode cX9_copy 145 = .ok (.istore 8, 2) := by decide +kernel
theorem dX9_copy_147 : decode cX9_copy 147 = .ok (.iload 8, 2) := by decide +kernel
theorem dX9_copy_149 : decode cX9_copy 149 = .ok (.iload 5, 2) := by decide +kernel
theorem dX9_copy_151 : decode cX9_copy 151 = .ok (.if_icmp .ge 50, 3) := by decide +kernel
theorem dX9_copy_154 : decode cX9_copy 154 = .ok (.iload 6, 2) := by decide +kernel
theorem dX9_copy_156 : decode cX9_copy 156 = .ok (.iload 7, 2) := by decide +kernel
theorem dX9_copy_158 : decode cX9_copy 158 = .ok (.if_icmp .ge 13, 3) := by decide +kernel
theorem dX9_copy_161 : decode cX9_copy 161 = .ok (.iload 5, 2) := by decide +kernel
theorem dX9_copy_163 : decode cX9_copy 163 = .ok (.iconst 1, 1) := by decide +kernel
theorem dX9_copy_164 : decode cX9_copy 164 = .ok (.isub, 1) := by decide +kernel
theorem dX9_copy_165 : decode cX9_copy 165 = .ok (.iload 8, 2) := by decide +kernel
theorem dX9_copy_167 : decode cX9_copy 167 = .ok (.isub, 1) := by decide +kernel
theorem dX9_copy_168 : decode cX9_copy 168 = .ok (.goto 5, 3) := by decide +kernel
theorem dX9_copy_171 : decode cX9_copy 171 = .ok (.iload 8, 2) := by decide +kernel
theorem dX9_copy_173 : decode cX9_copy 173 = .ok (.istore 9, 2) := by decide +kernel
theorem dX9_copy_175 : decode cX9_copy 175 = .ok (.aload_n 0, 1) := by decide +kernel
theorem dX9_copy_176 : decode cX9_copy 176 = .ok (.getfield 44, 3) := by decide +kernel
theorem dX9_copy_179 : decode cX9_copy 179 = .ok (.iload 7, 2) := by decide +kernel
theorem dX9_copy_181 : decode cX9_copy 181 = .ok (.iload 9, 2) := by decide +kernel
theorem dX9_copy_183 : decode cX9_copy 183 = .ok (.iadd, 1) := by decide +kernel
theorem dX9_copy_184 : decode cX9_copy 184 = .ok (.aload_n 0, 1) := by decide +kernel
theorem dX9_copy_185 : decode cX9_copy 185 = .ok (.getfield 44, 3) := by decide +kernel
theorem dX9_copy_188 : decode cX9_copy 188 = .ok (.iload 6, 2) := by decide +kernel
theorem dX9_copy_190 : decode cX9_copy 190 = .ok (.iload 9, 2) := by decide +kernel
theorem dX9_copy_192 : decode cX9_copy 192 = .ok (.iadd, 1) := by decide +kernel
theorem dX9_copy_193 : decode cX9_copy 193 = .ok (.iaload, 1) := by decide +kernel
theorem dX9_copy_194 : decode cX9_copy 194 = .ok (.iastore, 1) := by decide +kernel
theorem dX9_copy_195 : decode cX9_copy 195 = .ok (.iinc 8 1, 3) := by decide +kernel
theorem dX9_copy_198 : decode cX9_copy 198 = .ok (.goto (-51), 3) := by decide +kernel
theorem dX9_copy_201 : decode cX9_copy 201 = .ok (.iload 5, 2) := by decide +kernel
theorem dX9_copy_203 : decode cX9_copy 203 = .ok (.ireturn, 1) := by decide +kernel
theorem dX9_streetsBy_0 : decode cX9_streetsBy 0 = .ok (.iload_n 1, 1) := by decide +kernel
theorem dX9_streetsBy_1 : decode cX9_streetsBy 1 = .ok (.iconst 0, 1) := by decide +kernel
theorem dX9_streetsBy_2 : decode cX9_streetsBy 2 = .ok (.iconst 3, 1) := by decide +kernel
theorem dX9_streetsBy_3 : decode cX9_streetsBy 3 = .ok (.invokestatic 88, 3) := by decide +kernel
theorem dX9_streetsBy_6 : decode cX9_streetsBy 6 = .ok (.ifCond .eq 23, 3) := by decide +kernel
theorem dX9_streetsBy_9 : decode cX9_streetsBy 9 = .ok (.iload_n 2, 1) := by decide +kernel
theorem dX9_streetsBy_10 : decode cX9_streetsBy 10 = .ok (.iconst 0, 1) := by decide +kernel
theorem dX9_streetsBy_11 : decode cX9_streetsBy 11 = .ok (.iconst 2, 1) := by decide +kernel
theorem dX9_streetsBy_12 : decode cX9_streetsBy 12 = .ok (.invokestatic 88, 3) := by decide +kernel
theorem dX9_streetsBy_15 : decode cX9_streetsBy 15 = .ok (.ifCond .eq 14, 3) := by decide +kernel
theorem dX9_streetsBy_18 : decode cX9_streetsBy 18 = .ok (.iload 4, 2) := by decide +kernel
theorem dX9_streetsBy_20 : decode cX9_streetsBy 20 = .ok (.iconst 0, 1) := by decide +kernel
theorem dX9_streetsBy_21 : decode cX9_streetsBy 21 = .ok (.bipush 10, 2) := by decide +kernel
theorem dX9_streetsBy_23 : decode cX9_streetsBy 23 = .ok (.invokestatic 88, 3) := by decide +kernel
theorem dX9_streetsBy_26 : decode cX9_streetsBy 26 = .ok (.ifCond .ne 6, 3) := by decide +kernel
theorem dX9_streetsBy_29 : decode cX9_streetsBy 29 = .ok (.bipush (-2), 2) := by decide +kernel
theorem dX9_streetsBy_31 : decode cX9_streetsBy 31 = .ok (.ireturn, 1) := by decide +kernel
theorem dX9_streetsBy_32 : decode cX9_streetsBy 32 = .ok (.aload_n 0, 1) := by decide +kernel
theorem dX9_streetsBy_33 : decode cX9_streetsBy 33 = .ok (.getfield 38, 3) := by decide +kernel
theorem dX9_streetsBy_36 : decode cX9_streetsBy 36 = .ok (.iload_n 1, 1) := by decide +kernel
theorem dX9_streetsBy_37 : decode cX9_streetsBy 37 = .ok (.iaload, 1) := by decide +kernel
theorem dX9_streetsBy_38 : decode cX9_streetsBy 38 = .ok (.iconst (-1), 1) := by decide +kernel
theorem dX9_streetsBy_39 : decode cX9_streetsBy 39 = .ok (.if_icmp .ne 6, 3) := by decide +kernel
theorem dX9_streetsBy_42 : decode cX9_streetsBy 42 = .ok (.bipush (-11), 2) := by decide +kernel
theorem dX9_streetsBy_44 : decode cX9_streetsBy 44 = .ok (.ireturn, 1) := by decide +kernel
theorem dX9_streetsBy_45 : decode cX9_streetsBy 45 = .ok (.aload_n 0, 1) := by decide +kernel
theorem dX9_streetsBy_46 : decode cX9_streetsBy 46 = .ok (.getfield 38, 3) := by decide +kernel
theorem dX9_streetsBy_49 : decode cX9_streetsBy 49 = .ok (.iload_n 1, 1) := by decide +kernel
theorem dX9_streetsBy_50 : decode cX9_streetsBy 50 = .ok (.iaload, 1) := by decide +kernel
theorem dX9_streetsBy_51 : decode cX9_streetsBy 51 = .ok (.iload_n 2, 1) := by decide +kernel
theorem dX9_streetsBy_52 : decode cX9_streetsBy 52 = .ok (.if_icmp .eq 6, 3) := by decide +kernel
theorem dX9_streetsBy_55 : decode cX9_streetsBy 55 = .ok (.bipush (-13), 2) := by decide +kernel
theorem dX9_streetsBy_57 : decode cX9_streetsBy 57 = .ok (.ireturn, 1) := by decide +kernel
theorem dX9_streetsBy_58 : decode cX9_streetsBy 58 = .ok (.iconst 0, 1) := by decide +kernel
theorem dX9_streetsBy_59 : decode cX9_streetsBy 59 = .ok (.istore 5, 2) := by decide +kernel
theorem dX9_streetsBy_61 : decode cX9_streetsBy 61 = .ok (.iconst 0, 1) := by decide +kernel
theorem dX9_streetsBy_62 : decode cX9_streetsBy 62 = .ok (.istore 6, 2) := by decide +kernel
theorem dX9_streetsBy_64 : decode cX9_streetsBy 64 = .ok (.iload 6, 2) := by decide +kernel
theorem dX9_streetsBy_66 : decode cX9_streetsBy 66 = .ok (.iload 4, 2) := by decide +kernel
theorem dX9_streetsBy_68 : decode cX9_streetsBy 68 = .ok (.if_icmp .ge 103, 3) := by decide +kernel
theorem dX9_streetsBy_71 : decode cX9_streetsBy 71 = .ok (.iload_n 3, 1) := by decide +kernel
theorem dX9_streetsBy_72 : decode cX9_streetsBy 72 = .ok (.iconst 4, 1) := by decide +kernel
theorem dX9_streetsBy_73 : decode cX9_streetsBy 73 = .ok (.iload 6, 2) := by decide +kernel
theorem dX9_streetsBy_75 : decode cX9_streetsBy 75 = .ok (.imul, 1) := by decide +kernel
theorem dX9_streetsBy_76 : decode cX9_streetsBy 76 = .ok (.iadd, 1) := by decide +kernel
theorem dX9_streetsBy_77 : decode cX9_streetsBy 77 = .ok (.istore 7, 2) := by decide +kernel
theorem dX9_streetsBy_79 : decode cX9_streetsBy 79 = .ok (.iload_n 3, 1) := by decide +kernel
theorem dX9_streetsBy_80 : decode cX9_streetsBy 80 = .ok (.ifCond .lt 22, 3) := by decide +kernel
theorem dX9_streetsBy_83 : decode cX9_streetsBy 83 = .ok (.iload 7, 2) := by decide +kernel
theorem dX9_streetsBy_85 : decode cX9_streetsBy 85 = .ok (.iload_n 3, 1) := by decide +kernel
theorem dX9_streetsBy_86 : decode cX9_streetsBy 86 = .ok (.if_icmp .lt 16, 3) := by decide +kernel
theorem dX9_streetsBy_89 : decode cX9_streetsBy 89 = .ok (.iload 7, 2) := by decide +kernel
theorem dX9_streetsBy_91 : decode cX9_streetsBy 91 = .ok (.aload_n 0, 1) := by decide +kernel
theorem dX9_streetsBy_92 : decode cX9_streetsBy 92 = .ok (.getfield 41, 3) := by decide +kernel
theorem dX9_streetsBy_95 : decode cX9_streetsBy 95 = .ok (.iload_n 1, 1) := by decide +kernel
theorem dX9_streetsBy_96 : decode cX9_streetsBy 96 = .ok (.iaload, 1) := by decide +kernel
theorem dX9_streetsBy_97 : decode cX9_streetsBy 97 = .ok (.iconst 4, 1) := by decide +kernel
theorem dX9_streetsBy_98 : decode cX9_streetsBy 98 = .ok (.isub, 1) := by decide +kernel
theorem dX9_streetsBy_99 : decode cX9_streetsBy 99 = .ok (.if_icmp .le 6, 3) := by decide +kernel
theorem dX9_streetsBy_102 : decode cX9_streetsBy 102 = .ok (.bipush (-12), 2) := by decide +kernel
theorem dX9_streetsBy_104 : decode cX9_streetsBy 104 = .ok (.ireturn, 1) := by decide +kernel
theorem dX9_streetsBy_105 : decode cX9_streetsBy 105 = .ok (.bipush 40, 2) := by decide +kernel
theorem dX9_streetsBy_107 : decode cX9_streetsBy 107 = .ok (.iload_n 1, 1) := by decide +kernel
theorem dX9_streetsBy_108 : decode cX9_streetsBy 108 = .ok (.imul, 1) := by decide +kernel
theorem dX9_streetsBy_109 : decode cX9_streetsBy 109 = .ok (.iload 7, 2) := by decide +kernel
theorem dX9_streetsBy_111 : decode cX9_streetsBy 111 = .ok (.iadd, 1) := by decide +kernel
theorem dX9_streetsBy_112 : decode cX9_streetsBy 112 = .ok (.istore 8, 2) := by decide +kernel
theorem dX9_streetsBy_114 : decode cX9_streetsBy 114 = .ok (.iload 5, 2) := by decide +kernel
theorem dX9_streetsBy_116 : decode cX9_streetsBy 116 = .ok (.aload_n 0, 1) := by decide +kernel
theorem dX9_streetsBy_117 : decode cX9_streetsBy 117 = .ok (.aload_n 0, 1) := by decide +kernel
theorem dX9_streetsBy_118 : decode cX9_streetsBy 118 = .ok (.getfield 44, 3) := by decide +kernel
theorem dX9_streetsBy_121 : decode cX9_streetsBy 121 = .ok (.iload 8, 2) := by decide +kernel
theorem dX9_streetsBy_123 : decode cX9_streetsBy 123 = .ok (.iaload, 1) := by decide +kernel
theorem dX9_streetsBy_124 : decode cX9_streetsBy 124 = .ok (.aload_n 0, 1) := by decide +kernel
theorem dX9_streetsBy_125 : decode cX9_streetsBy 125 = .ok (.getfield 44, 3) := by decide +kernel
theorem dX9_streetsBy_128 : decode cX9_streetsBy 128 = .ok (.iload 8, 2) := by decide +kernel
theorem dX9_streetsBy_130 : decode cX9_streetsBy 130 = .ok (.iconst 1, 1) := by decide +kernel
theorem dX9_streetsBy_131 : decode cX9_streetsBy 131 = .ok (.iadd, 1) := by decide +kernel
theorem dX9_streetsBy_132 : decode cX9_streetsBy 132 = .ok (.iaload, 1) := by decide +kernel
theorem dX9_streetsBy_133 : decode cX9_streetsBy 133 = .ok (.aload_n 0, 1) := by decide +kernel
theorem dX9_streetsBy_134 : decode cX9_streetsBy 134 = .ok (.getfield 44, 3) := by decide +kernel
theorem dX9_streetsBy_137 : decode cX9_streetsBy 137 = .ok (.iload 8, 2) := by decide +kernel
theorem dX9_streetsBy_139 : decode cX9_streetsBy 139 = .ok (.iconst 2, 1) := by decide +kernel
theorem dX9_streetsBy_140 : decode cX9_streetsBy 140 = .ok (.iadd, 1) := by decide +kernel
theorem dX9_streetsBy_141 : decode cX9_streetsBy 141 = .ok (.iaload, 1) := by decide +kernel
theorem dX9_streetsBy_142 : decode cX9_streetsBy 142 = .ok (.aload_n 0, 1) := by decide +kernel
theorem dX9_streetsBy_143 : decode cX9_streetsBy 143 = .ok (.getfield 44, 3) := by decide +kernel
theorem dX9_streetsBy_146 : decode cX9_streetsBy 146 = .ok (.iload 8, 2) := by decide +kernel
theorem dX9_streetsBy_148 : decode cX9_streetsBy 148 = .ok (.iconst 3, 1) := by decide +kernel
theorem dX9_streetsBy_149 : decode cX9_streetsBy 149 = .ok (.iadd, 1) := by decide +kernel
theorem dX9_streetsBy_150 : decode cX9_streetsBy 150 = .ok (.iaload, 1) := by decide +kernel
theorem dX9_streetsBy_151 : decode cX9_streetsBy 151 = .ok (.invokevirtual 359, 3) := by decide +kernel
theorem dX9_streetsBy_154 : decode cX9_streetsBy 154 = .ok (.ifCond .lt 7, 3) := by decide +kernel
theorem dX9_streetsBy_157 : decode cX9_streetsBy 157 = .ok (.iconst 1, 1) := by decide +kernel
theorem dX9_streetsBy_158 : decode cX9_streetsBy 158 = .ok (.goto 4, 3) := by decide +kernel
theorem dX9_streetsBy_161 : decode cX9_streetsBy 161 = .ok (.iconst 0, 1) := by decide +kernel
theorem dX9_streetsBy_162 : decode cX9_streetsBy 162 = .ok (.iadd, 1) := by decide +kernel
theorem dX9_streetsBy_163 : decode cX9_streetsBy 163 = .ok (.istore 5, 2) := by decide +kernel
theorem dX9_streetsBy_165 : decode cX9_streetsBy 165 = .ok (.iinc 6 1, 3) := by decide +kernel
theorem dX9_streetsBy_168 : decode cX9_streetsBy 168 = .ok (.goto (-104), 3) := by decide +kernel
theorem dX9_streetsBy_171 : decode cX9_streetsBy 171 = .ok (.iload 5, 2) := by decide +kernel
theorem dX9_streetsBy_173 : decode cX9_streetsBy 173 = .ok (.ireturn, 1) := by decide +kernel
theorem dX9_isUnder_0 : decode cX9_isUnder 0 = .ok (.iload_n 1, 1) := by decide +kernel
theorem dX9_isUnder_1 : decode cX9_isUnder 1 = .ok (.ifCond .eq 18, 3) := by decide +kernel
theorem dX9_isUnder_4 : decode cX9_isUnder 4 = .ok (.iload_n 0, 1) := by decide +kernel
theorem dX9_isUnder_5 : decode cX9_isUnder 5 = .ok (.iload_n 1, 1) := by decide +kernel
theorem dX9_isUnder_6 : decode cX9_isUnder 6 = .ok (.if_icmp .eq 13, 3) := by decide +kernel
theorem dX9_isUnder_9 : decode cX9_isUnder 9 = .ok (.iload_n 1, 1) := by decide +kernel
theorem dX9_isUnder_10 : decode cX9_isUnder 10 = .ok (.iconst 3, 1) := by decide +kernel
theorem dX9_isUnder_11 : decode cX9_isUnder 11 = .ok (.if_icmp .ne 12, 3) := by decide +kernel
theorem dX9_isUnder_14 : decode cX9_isUnder 14 = .ok (.iload_n 0, 1) := by decide +kernel
theorem dX9_isUnder_15 : decode cX9_isUnder 15 = .ok (.iconst 5, 1) := by decide +kernel
theorem dX9_isUnder_16 : decode cX9_isUnder 16 = .ok (.if_icmp .ne 7, 3) := by decide +kernel
theorem dX9_isUnder_19 : decode cX9_isUnder 19 = .ok (.iconst 1, 1) := by decide +kernel
theorem dX9_isUnder_20 : decode cX9_isUnder 20 = .ok (.goto 4, 3) := by decide +kernel
theorem dX9_isUnder_23 : decode cX9_isUnder 23 = .ok (.iconst 0, 1) := by decide +kernel
theorem dX9_isUnder_24 : decode cX9_isUnder 24 = .ok (.ireturn, 1) := by decide +kernel
theorem dX9_taken_0 : decode cX9_taken 0 = .ok (.iload_n 2, 1) := by decide +kernel
theorem dX9_taken_1 : decode cX9_taken 1 = .ok (.iconst 0, 1) := by decide +kernel
theorem dX9_taken_2 : decode cX9_taken 2 = .ok (.bipush 6, 2) := by decide +kernel
theorem dX9_taken_4 : decode cX9_taken 4 = .ok (.invokestatic 88, 3) := by decide +kernel
theorem dX9_taken_7 : decode cX9_taken 7 = .ok (.ifCond .ne 6, 3) := by decide +kernel
theorem dX9_taken_10 : decode cX9_taken 10 = .ok (.bipush (-2), 2) := by decide +kernel
theorem dX9_taken_12 : decode cX9_taken 12 = .ok (.ireturn, 1) := by decide +kernel
theorem dX9_taken_13 : decode cX9_taken 13 = .ok (.iload_n 1, 1) := by decide +kernel
theorem dX9_taken_14 : decode cX9_taken 14 = .ok (.iconst 0, 1) := by decide +kernel
theorem dX9_taken_15 : decode cX9_taken 15 = .ok (.bipush 20, 2) := by decide +kernel
theorem dX9_taken_17 : decode cX9_taken 17 = .ok (.invokestatic 88, 3) := by decide +kernel
theorem dX9_taken_20 : decode cX9_taken 20 = .ok (.ifCond .ne 6, 3) := by decide +kernel
theorem dX9_taken_23 : decode cX9_taken 23 = .ok (.bipush (-12), 2) := by decide +kernel
theorem dX9_taken_25 : decode cX9_taken 25 = .ok (.ireturn, 1) := by decide +kernel
theorem dX9_taken_26 : decode cX9_taken 26 = .ok (.iload_n 1, 1) := by decide +kernel
theorem dX9_taken_27 : decode cX9_taken 27 = .ok (.bipush 9, 2) := by decide +kernel
theorem dX9_taken_29 : decode cX9_taken 29 = .ok (.if_icmp .ge 66, 3) := by decide +kernel
theorem dX9_taken_32 : decode cX9_taken 32 = .ok (.iconst 0, 1) := by decide +kernel
theorem dX9_taken_33 : decode cX9_taken 33 = .ok (.istore_n 3, 1) := by decide +kernel
theorem dX9_taken_34 : decode cX9_taken 34 = .ok (.iconst 0, 1) := by decide +kernel
theorem dX9_taken_35 : decode cX9_taken 35 = .ok (.istore 4, 2) := by decide +kernel
theorem dX9_taken_37 : decode cX9_taken 37 = .ok (.iload 4, 2) := by decide +kernel
theorem dX9_taken_39 : decode cX9_taken 39 = .ok (.aload_n 0, 1) := by decide +kernel
theorem dX9_taken_40 : decode cX9_taken 40 = .ok (.getfield 92, 3) := by decide +kernel
theorem dX9_taken_43 : decode cX9_taken 43 = .ok (.if_icmp .ge 39, 3) := by decide +kernel
theorem dX9_taken_46 : decode cX9_taken 46 = .ok (.iload_n 3, 1) := by decide +kernel
theorem dX9_taken_47 : decode cX9_taken 47 = .ok (.aload_n 0, 1) := by decide +kernel
theorem dX9_taken_48 : decode cX9_taken 48 = .ok (.getfield 17, 3) := by decide +kernel
theorem dX9_taken_51 : decode cX9_taken 51 = .ok (.iload 4, 2) := by decide +kernel
theorem dX9_taken_53 : decode cX9_taken 53 = .ok (.iaload, 1) := by decide +kernel
theorem dX9_taken_54 : decode cX9_taken 54 = .ok (.iload_n 1, 1) := by decide +kernel
theorem dX9_taken_55 : decode cX9_taken 55 = .ok (.if_icmp .eq 14, 3) := by decide +kernel
theorem dX9_taken_58 : decode cX9_taken 58 = .ok (.aload_n 0, 1) := by decide +kernel
theorem dX9_taken_59 : decode cX9_taken 59 = .ok (.getfield 20, 3) := by decide +kernel
theorem dX9_taken_62 : decode cX9_taken 62 = .ok (.iload 4, 2) := by decide +kernel
theorem dX9_taken_64 : decode cX9_taken 64 = .ok (.iaload, 1) := by decide +kernel
theorem dX9_taken_65 : decode cX9_taken 65 = .ok (.iload_n 1, 1) := by decide +kernel
theorem dX9_taken_66 : decode cX9_taken 66 = .ok (.if_icmp .ne 7, 3) := by decide +kernel
theorem dX9_taken_69 : decode cX9_taken 69 = .ok (.iconst 1, 1) := by decide +kernel
theorem dX9_taken_70 : decode cX9_taken 70 = .ok (.goto 4, 3) := by decide +kernel
theorem dX9_taken_73 : decode cX9_taken 73 = .ok (.iconst 0, 1) := by decide +kernel
theorem dX9_taken_74 : decode cX9_taken 74 = .ok (.iadd, 1) := by decide +kernel
theorem dX9_taken_75 : decode cX9_taken 75 = .ok (.istore_n 3, 1) := by decide +kernel
theorem dX9_taken_76 : decode cX9_taken 76 = .ok (.iinc 4 1, 3) := by decide +kernel
theorem dX9_taken_79 : decode cX9_taken 79 = .ok (.goto (-42), 3) := by decide +kernel
theorem dX9_taken_82 : decode cX9_taken 82 = .ok (.iload_n 2, 1) := by decide +kernel
theorem dX9_taken_83 : decode cX9_taken 83 = .ok (.bipush 6, 2) := by decide +kernel
theorem dX9_taken_85 : decode cX9_taken 85 = .ok (.if_icmp .ne 7, 3) := by decide +kernel
theorem dX9_taken_88 : decode cX9_taken 88 = .ok (.iload_n 3, 1) := by decide +kernel
theorem dX9_taken_89 : decode cX9_taken 89 = .ok (.goto 5, 3) := by decide +kernel
theorem dX9_taken_92 : decode cX9_taken 92 = .ok (.bipush (-13), 2) := by decide +kernel
theorem dX9_taken_94 : decode cX9_taken 94 = .ok (.ireturn, 1) := by decide +kernel
theorem dX9_taken_95 : decode cX9_taken 95 = .ok (.iload_n 1, 1) := by decide +kernel
theorem dX9_taken_96 : decode cX9_taken 96 = .ok (.bipush 9, 2) := by decide +kernel
theorem dX9_taken_98 : decode cX9_taken 98 = .ok (.isub, 1) := by decide +kernel
theorem dX9_taken_99 : decode cX9_taken 99 = .ok (.aload_n 0, 1) := by decide +kernel
theorem dX9_taken_100 : decode cX9_taken 100 = .ok (.getfield 92, 3) := by decide +kernel
theorem dX9_taken_103 : decode cX9_taken 103 = .ok (.if_icmp .lt 8, 3) := by decide +kernel
theorem dX9_taken_106 : decode cX9_taken 106 = .ok (.bipush (-11), 2) := by decide +kernel
theorem dX9_taken_108 : decode cX9_taken 108 = .ok (.goto 34, 3) := by decide +kernel
theorem dX9_taken_111 : decode cX9_taken 111 = .ok (.iload_n 2, 1) := by decide +kernel
theorem dX9_taken_112 : decode cX9_taken 112 = .ok (.bipush 6, 2) := by decide +kernel
theorem dX9_taken_114 : decode cX9_taken 114 = .ok (.if_icmp .ge 26, 3) := by decide +kernel
theorem dX9_taken_117 : decode cX9_taken 117 = .ok (.aload_n 0, 1) := by decide +kernel
theorem dX9_taken_118 : decode cX9_taken 118 = .ok (.getfield 13, 3) := by decide +kernel
theorem dX9_taken_121 : decode cX9_taken 121 = .ok (.iload_n 1, 1) := by decide +kernel
theorem dX9_taken_122 : decode cX9_taken 122 = .ok (.bipush 9, 2) := by decide +kernel
theorem dX9_taken_124 : decode cX9_taken 124 = .ok (.isub, 1) := by decide +kernel
theorem dX9_taken_125 : decode cX9_taken 125 = .ok (.iaload, 1) := by decide +kernel
theorem dX9_taken_126 : decode cX9_taken 126 = .ok (.iload_n 2, 1) := by decide +kernel
theorem dX9_taken_127 : decode cX9_taken 127 = .ok (.invokestatic 363, 3) := by decide +kernel
theorem dX9_taken_130 : decode cX9_taken 130 = .ok (.ifCond .eq 10, 3) := by decide +kernel
theorem dX9_taken_133 : decode cX9_taken 133 = .ok (.iload_n 1, 1) := by decide +kernel
theorem dX9_taken_134 : decode cX9_taken 134 = .ok (.bipush 9, 2) := by decide +kernel
theorem dX9_taken_136 : decode cX9_taken 136 = .ok (.isub, 1) := by decide +kernel
theorem dX9_taken_137 : decode cX9_taken 137 = .ok (.goto 5, 3) := by decide +kernel
theorem dX9_taken_140 : decode cX9_taken 140 = .ok (.bipush (-13), 2) := by decide +kernel
theorem dX9_taken_142 : decode cX9_taken 142 = .ok (.ireturn, 1) := by decide +kernel
