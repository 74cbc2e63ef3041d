theorem dX8_init_0 : decode cX8_init 0 = .ok (.aload_n 0, 1) := by decide +kernel
theorem dX8_init_1 : decode cX8_init 1 = .ok (.invokespecial 3, 3) := by decide +kernel
theorem dX8_init_4 : decode cX8_init 4 = .ok (.aload_n 0, 1) := by decide +kernel
theorem dX8_init_5 : decode cX8_init 5 = .ok (.new 9, 3) := by decide +kernel
theorem dX8_init_8 : decode cX8_init 8 = .ok (.dup, 1) := by decide +kernel
theorem dX8_init_9 : decode cX8_init 9 = .ok (.invokespecial 11, 3) := by decide +kernel
theorem dX8_init_12 : decode cX8_init 12 = .ok (.putfield 12, 3) := by decide +kernel
theorem dX8_init_15 : decode cX8_init 15 = .ok (.aload_n 0, 1) := by decide +kernel
theorem dX8_init_16 : decode cX8_init 16 = .ok (.new 9, 3) := by decide +kernel
theorem dX8_init_19 : decode cX8_init 19 = .ok (.dup, 1) := by decide +kernel
theorem dX8_init_20 : decode cX8_init 20 = .ok (.invokespecial 11, 3) := by decide +kernel
theorem dX8_init_23 : decode cX8_init 23 = .ok (.putfield 16, 3) := by decide +kernel
theorem dX8_init_26 : decode cX8_init 26 = .ok (.aload_n 0, 1) := by decide +kernel
theorem dX8_init_27 : decode cX8_init 27 = .ok (.new 9, 3) := by decide +kernel
theorem dX8_init_30 : decode cX8_init 30 = .ok (.dup, 1) := by decide +kernel
theorem dX8_init_31 : decode cX8_init 31 = .ok (.invokespecial 11, 3) := by decide +kernel
theorem dX8_init_34 : decode cX8_init 34 = .ok (.putfield 19, 3) := by decide +kernel
theorem dX8_init_37 : decode cX8_init 37 = .ok (.aload_n 0, 1) := by decide +kernel
theorem dX8_init_38 : decode cX8_init 38 = .ok (.new 22, 3) := by decide +kernel
theorem dX8_init_41 : decode cX8_init 41 = .ok (.dup, 1) := by decide +kernel
theorem dX8_init_42 : decode cX8_init 42 = .ok (.invokespecial 24, 3) := by decide +kernel
theorem dX8_init_45 : decode cX8_init 45 = .ok (.putfield 25, 3) := by decide +kernel
theorem dX8_init_48 : decode cX8_init 48 = .ok (.aload_n 0, 1) := by decide +kernel
theorem dX8_init_49 : decode cX8_init 49 = .ok (.new 29, 3) := by decide +kernel
theorem dX8_init_52 : decode cX8_init 52 = .ok (.dup, 1) := by decide +kernel
theorem dX8_init_53 : decode cX8_init 53 = .ok (.invokespecial 31, 3) := by decide +kernel
theorem dX8_init_56 : decode cX8_init 56 = .ok (.putfield 32, 3) := by decide +kernel
theorem dX8_init_59 : decode cX8_init 59 = .ok (.aload_n 0, 1) := by decide +kernel
theorem dX8_init_60 : decode cX8_init 60 = .ok (.new 36, 3) := by decide +kernel
theorem dX8_init_63 : decode cX8_init 63 = .ok (.dup, 1) := by decide +kernel
theorem dX8_init_64 : decode cX8_init 64 = .ok (.invokespecial 38, 3) := by decide +kernel
theorem dX8_init_67 : decode cX8_init 67 = .ok (.putfield 39, 3) := by decide +kernel
theorem dX8_init_70 : decode cX8_init 70 = .ok (.aload_n 0, 1) := by decide +kernel
theorem dX8_init_71 : decode cX8_init 71 = .ok (.new 43, 3) := by decide +kernel
theorem dX8_init_74 : decode cX8_init 74 = .ok (.dup, 1) := by decide +kernel
theorem dX8_init_75 : decode cX8_init 75 = .ok (.invokespecial 45, 3) := by decide +kernel
theorem dX8_init_78 : decode cX8_init 78 = .ok (.putfield 46, 3) := by decide +kernel
theorem dX8_init_81 : decode cX8_init 81 = .ok (.aload_n 0, 1) := by decide +kernel
theorem dX8_init_82 : decode cX8_init 82 = .ok (.new 50, 3) := by decide +kernel
theorem dX8_init_85 : decode cX8_init 85 = .ok (.dup, 1) := by decide +kernel
theorem dX8_init_86 : decode cX8_init 86 = .ok (.invokespecial 52, 3) := by decide +kernel
theorem dX8_init_89 : decode cX8_init 89 = .ok (.putfield 53, 3) := by decide +kernel
theorem dX8_init_92 : decode cX8_init 92 = .ok (.aload_n 0, 1) := by decide +kernel
theorem dX8_init_93 : decode cX8_init 93 = .ok (.new 57, 3) := by decide +kernel
theorem dX8_init_96 : decode cX8_init 96 = .ok (.dup, 1) := by decide +kernel
theorem dX8_init_97 : decode cX8_init 97 = .ok (.invokespecial 59, 3) := by decide +kernel
theorem dX8_init_100 : decode cX8_init 100 = .ok (.putfield 60, 3) := by decide +kernel
theorem dX8_init_103 : decode cX8_init 103 = .ok (.aload_n 0, 1) := by decide +kernel
theorem dX8_init_104 : decode cX8_init 104 = .ok (.iconst 4, 1) := by decide +kernel
theorem dX8_init_105 : decode cX8_init 105 = .ok (.anewarray 64, 3) := by decide +kernel
theorem dX8_init_108 : decode cX8_init 108 = .ok (.putfield 66, 3) := by decide +kernel
theorem dX8_init_111 : decode cX8_init 111 = .ok (.aload_n 0, 1) := by decide +kernel
theorem dX8_init_112 : decode cX8_init 112 = .ok (.getfield 12, 3) := by decide +kernel
theorem dX8_init_115 : decode cX8_init 115 = .ok (.bipush 8, 2) := by decide +kernel
theorem dX8_init_117 : decode cX8_init 117 = .ok (.putfield 70, 3) := by decide +kernel
theorem dX8_init_120 : decode cX8_init 120 = .ok (.iconst 0, 1) := by decide +kernel
theorem dX8_init_121 : decode cX8_init 121 = .ok (.istore_n 1, 1) := by decide +kernel
theorem dX8_init_122 : decode cX8_init 122 = .ok (.iload_n 1, 1) := by decide +kernel
theorem dX8_init_123 : decode cX8_init 123 = .ok (.iconst 4, 1) := by decide +kernel
theorem dX8_init_124 : decode cX8_init 124 = .ok (.if_icmp .ge 22, 3) := by decide +kernel
theorem dX8_init_127 : decode cX8_init 127 = .ok (.aload_n 0, 1) := by decide +kernel
theorem dX8_init_128 : decode cX8_init 128 = .ok (.getfield 66, 3) := by decide +kernel
theorem dX8_init_131 : decode cX8_init 131 = .ok (.iload_n 1, 1) := by decide +kernel
theorem dX8_init_132 : decode cX8_init 132 = .ok (.new 64, 3) := by decide +kernel
theorem dX8_init_135 : decode cX8_init 135 = .ok (.dup, 1) := by decide +kernel
theorem dX8_init_136 : decode cX8_init 136 = .ok (.invokespecial 74, 3) := by decide +kernel
theorem dX8_init_139 : decode cX8_init 139 = .ok (.aastore, 1) := by decide +kernel
theorem dX8_init_140 : decode cX8_init 140 = .ok (.iinc 1 1, 3) := by decide +kernel
theorem dX8_init_143 : decode cX8_init 143 = .ok (.goto (-21), 3) := by decide +kernel
theorem dX8_init_146 : decode cX8_init 146 = .ok (.iconst 0, 1) := by decide +kernel
theorem dX8_init_147 : decode cX8_init 147 = .ok (.istore_n 1, 1) := by decide +kernel
theorem dX8_init_148 : decode cX8_init 148 = .ok (.iload_n 1, 1) := by decide +kernel
theorem dX8_init_149 : decode cX8_init 149 = .ok (.ldc 75, 2) := by decide +kernel
theorem dX8_init_151 : decode cX8_init 151 = .ok (.invokevirtual 77, 3) := by decide +kernel
theorem dX8_init_154 : decode cX8_init 154 = .ok (.if_icmp .ge 22, 3) := by decide +kernel
theorem dX8_init_157 : decode cX8_init 157 = .ok (.aload_n 0, 1) := by decide +kernel
theorem dX8_init_158 : decode cX8_init 158 = .ok (.getfield 32, 3) := by decide +kernel
theorem dX8_init_161 : decode cX8_init 161 = .ok (.ldc 75, 2) := by decide +kernel
theorem dX8_init_163 : decode cX8_init 163 = .ok (.iload_n 1, 1) := by decide +kernel
theorem dX8_init_164 : decode cX8_init 164 = .ok (.invokevirtual 83, 3) := by decide +kernel
theorem dX8_init_167 : decode cX8_init 167 = .ok (.invokevirtual 87, 3) := by decide +kernel
theorem dX8_init_170 : decode cX8_init 170 = .ok (.iinc 1 1, 3) := by decide +kernel
theorem dX8_init_173 : decode cX8_init 173 = .ok (.goto (-25), 3) := by decide +kernel
theorem dX8_init_176 : decode cX8_init 176 = .ok (.aload_n 0, 1) := by decide +kernel
theorem dX8_init_177 : decode cX8_init 177 = .ok (.getfield 32, 3) := by decide +kernel
theorem dX8_init_180 : decode cX8_init 180 = .ok (.invokevirtual 91, 3) := by decide +kernel
theorem dX8_init_183 : decode cX8_init 183 = .ok (.pop, 1) := by decide +kernel
theorem dX8_init_184 : decode cX8_init 184 = .ok (.aload_n 0, 1) := by decide +kernel
theorem dX8_init_185 : decode cX8_init 185 = .ok (.getfield 39, 3) := by decide +kernel
theorem dX8_init_188 : decode cX8_init 188 = .ok (.aload_n 0, 1) := by decide +kernel
theorem dX8_init_189 : decode cX8_init 189 = .ok (.getfield 32, 3) := by decide +kernel
theorem dX8_init_192 : decode cX8_init 192 = .ok (.invokevirtual 94, 3) := by decide +kernel
theorem dX8_init_195 : decode cX8_init 195 = .ok (.pop, 1) := by decide +kernel
theorem dX8_init_196 : decode cX8_init 196 = .ok (.aload_n 0, 1) := by decide +kernel
theorem dX8_init_197 : decode cX8_init 197 = .ok (.getfield 32, 3) := by decide +kernel
theorem dX8_init_200 : decode cX8_init 200 = .ok (.iconst 0, 1) := by decide +kernel
theorem dX8_init_201 : decode cX8_init 201 = .ok (.putfield 98, 3) := by decide +kernel
theorem dX8_init_204 : decode cX8_init 204 = .ok (.return_, 1) := by decide +kernel
theorem dX8_set_0 : decode cX8_set 0 = .ok (.iload_n 1, 1) := by decide +kernel
theorem dX8_set_1 : decode cX8_set 1 = .ok (.ifCond .lt 8, 3) := by decide +kernel
theorem dX8_set_4 : decode cX8_set 4 = .ok (.iload_n 1, 1) := by decide +kernel
theorem dX8_set_5 : decode cX8_set 5 = .ok (.iconst 2, 1) := by decide +kernel
theorem dX8_set_6 : decode cX8_set 6 = .ok (.if_icmp .le 5, 3) := by decide +kernel
theorem dX8_set_9 : decode cX8_set 9 = .ok (.iconst (-1), 1) := by decide +kernel
theorem dX8_set_10 : decode cX8_set 10 = .ok (.ireturn, 1) := by decide +kernel
theorem dX8_set_11 : decode cX8_set 11 = .ok (.iload_n 1, 1) := by decide +kernel
theorem dX8_set_12 : decode cX8_set 12 = .ok (.ifCond .ne 8, 3) := by decide +kernel
theorem dX8_set_15 : decode cX8_set 15 = .ok (.bipush 9, 2) := by decide +kernel
theorem dX8_set_17 : decode cX8_set 17 = .ok (.goto 14, 3) := by decide +kernel
theorem dX8_set_20 : decode cX8_set 20 = .ok (.iload_n 1, 1) := by decide +kernel
theorem dX8_set_21 : decode cX8_set 21 = .ok (.iconst 1, 1) := by decide +kernel
theorem dX8_set_22 : decode cX8_set 22 = .ok (.if_icmp .ne 8, 3) := by decide +kernel
theorem dX8_set_25 : decode cX8_set 25 = .ok (.bipush 24, 2) := by decide +kernel
theorem dX8_set_27 : decode cX8_set 27 = .ok (.goto 4, 3) := by decide +kernel
theorem dX8_set_30 : decode cX8_set 30 = .ok (.iconst 2, 1) := by decide +kernel
theorem dX8_set_31 : decode cX8_set 31 = .ok (.istore_n 3, 1) := by decide +kernel
theorem dX8_set_32 : decode cX8_set 32 = .ok (.iload_n 2, 1) := by decide +kernel
theorem dX8_set_33 : decode cX8_set 33 = .ok (.ifCond .lt 8, 3) := by decide +kernel
theorem dX8_set_36 : decode cX8_set 36 = .ok (.iload_n 2, 1) := by decide +kernel
theorem dX8_set_37 : decode cX8_set 37 = .ok (.iload_n 3, 1) := by decide +kernel
theorem dX8_set_38 : decode cX8_set 38 = .ok (.if_icmp .lt 6, 3) := by decide +kernel
theorem dX8_set_41 : decode cX8_set 41 = .ok (.bipush (-2), 2) := by decide +kernel
theorem dX8_set_43 : decode cX8_set 43 = .ok (.ireturn, 1) := by decide +kernel
theorem dX8_set_44 : decode cX8_set 44 = .ok (.aload_n 0, 1) := by decide +kernel
theorem dX8_set_45 : decode cX8_set 45 = .ok (.iload_n 1, 1) := by decide +kernel
theorem dX8_set_46 : decode cX8_set 46 = .ok (.invokevirtual 101, 3) := by decide +kernel
theorem dX8_set_49 : decode cX8_set 49 = .ok (.istore 4, 2) := by decide +kernel
theorem dX8_set_51 : decode cX8_set 51 = .ok (.iload_n 1, 1) := by decide +kernel
theorem dX8_set_52 : decode cX8_set 52 = .ok (.ifCond .ne 14, 3) := by decide +kernel
theorem dX8_set_55 : decode cX8_set 55 = .ok (.aload_n 0, 1) := by decide +kernel
theorem dX8_set_56 : decode cX8_set 56 = .ok (.getfield 12, 3) := by decide +kernel
theorem dX8_set_59 : decode cX8_set 59 = .ok (.iload_n 2, 1) := by decide +kernel
theorem dX8_set_60 : decode cX8_set 60 = .ok (.putfield 105, 3) := by decide +kernel
theorem dX8_set_63 : decode cX8_set 63 = .ok (.goto 27, 3) := by decide +kernel
theorem dX8_set_66 : decode cX8_set 66 = .ok (.iload_n 1, 1) := by decide +kernel
theorem dX8_set_67 : decode cX8_set 67 = .ok (.iconst 1, 1) := by decide +kernel
theorem dX8_set_68 : decode cX8_set 68 = .ok (.if_icmp .ne 14, 3) := by decide +kernel
theorem dX8_set_71 : decode cX8_set 71 = .ok (.aload_n 0, 1) := by decide +kernel
theorem dX8_set_72 : decode cX8_set 72 = .ok (.getfield 12, 3) := by decide +kernel
theorem dX8_set_75 : decode cX8_set 75 = .ok (.iload_n 2, 1) := by decide +kernel
theorem dX8_set_76 : decode cX8_set 76 = .ok (.putfield 70, 3) := by decide +kernel
theorem dX8_set_79 : decode cX8_set 79 = .ok (.goto 11, 3) := by decide +kernel
theorem dX8_set_82 : decode cX8_set 82 = .ok (.aload_n 0, 1) := by decide +kernel
theorem dX8_set_83 : decode cX8_set 83 = .ok (.getfield 12, 3) := by decide +kernel
theorem dX8_set_86 : decode cX8_set 86 = .ok (.iload_n 2, 1) := by decide +kernel
theorem dX8_set_87 : decode cX8_set 87 = .ok (.putfield 108, 3) := by decide +kernel
theorem dX8_set_90 : decode cX8_set 90 = .ok (.iload 4, 2) := by decide +kernel
theorem dX8_set_92 : decode cX8_set 92 = .ok (.ireturn, 1) := by decide +kernel
theorem dX8_count_0 : decode cX8_count 0 = .ok (.iload_n 1, 1) := by decide +kernel
theorem dX8_count_1 : decode cX8_count 1 = .ok (.tableswitch 111 0 7 #[47, 55, 63, 71, 79, 87, 95, 103], 47) := by decide +kernel
theorem dX8_count_48 : decode cX8_count 48 = .ok (.aload_n 0, 1) := by decide +kernel
theorem dX8_count_49 : decode cX8_count 49 = .ok (.getfield 12, 3) := by decide +kernel
theorem dX8_count_52 : decode cX8_count 52 = .ok (.getfield 105, 3) := by decide +kernel
theorem dX8_count_55 : decode cX8_count 55 = .ok (.ireturn, 1) := by decide +kernel
theorem dX8_count_56 : decode cX8_count 56 = .ok (.aload_n 0, 1) := by decide +kernel
theorem dX8_count_57 : decode cX8_count 57 = .ok (.getfield 12, 3) := by decide +kernel
theorem dX8_count_60 : decode cX8_count 60 = .ok (.getfield 70, 3) := by decide +kernel
theorem dX8_count_63 : decode cX8_count 63 = .ok (.ireturn, 1) := by decide +kernel
theorem dX8_count_64 : decode cX8_count 64 = .ok (.aload_n 0, 1) := by decide +kernel
theorem dX8_count_65 : decode cX8_count 65 = .ok (.getfield 12, 3) := by decide +kernel
theorem dX8_count_68 : decode cX8_count 68 = .ok (.getfield 108, 3) := by decide +kernel
theorem dX8_count_71 : decode cX8_count 71 = .ok (.ireturn, 1) := by decide +kernel
theorem dX8_count_72 : decode cX8_count 72 = .ok (.aload_n 0, 1) := by decide +kernel
theorem dX8_count_73 : decode cX8_count 73 = .ok (.getfield 12, 3) := by decide +kernel
theorem dX8_count_76 : decode cX8_count 76 = .ok (.getfield 111, 3) := by decide +kernel
theorem dX8_count_79 : decode cX8_count 79 = .ok (.ireturn, 1) := by decide +kernel
theorem dX8_count_80 : decode cX8_count 80 = .ok (.aload_n 0, 1) := by decide +kernel
theorem dX8_count_81 : decode cX8_count 81 = .ok (.getfield 12, 3) := by decide +kernel
theorem dX8_count_84 : decode cX8_count 84 = .ok (.getfield 113, 3) := by decide +kernel
theorem dX8_count_87 : decode cX8_count 87 = .ok (.ireturn, 1) := by decide +kernel
theorem dX8_count_88 : decode cX8_count 88 = .ok (.aload_n 0, 1) := by decide +kernel
theorem dX8_count_89 : decode cX8_count 89 = .ok (.getfield 39, 3) := by decide +kernel
theorem dX8_count_92 : decode cX8_count 92 = .ok (.getfield 116, 3) := by decide +kernel
theorem dX8_count_95 : decode cX8_count 95 = .ok (.ireturn, 1) := by decide +kernel
theorem dX8_count_96 : decode cX8_count 96 = .ok (.aload_n 0, 1) := by decide +kernel
theorem dX8_count_97 : decode cX8_count 97 = .ok (.getfield 12, 3) := by decide +kernel
theorem dX8_count_100 : decode cX8_count 100 = .ok (.getfield 119, 3) := by decide +kernel
theorem dX8_count_103 : decode cX8_count 103 = .ok (.ireturn, 1) := by decide +kernel
theorem dX8_count_104 : decode cX8_count 104 = .ok (.aload_n 0, 1) := by decide +kernel
theorem dX8_count_105 : decode cX8_count 105 = .ok (.getfield 32, 3) := by decide +kernel
theorem dX8_count_108 : decode cX8_count 108 = .ok (.getfield 98, 3) := by decide +kernel
theorem dX8_count_111 : decode cX8_count 111 = .ok (.ireturn, 1) := by decide +kernel
theorem dX8_count_112 : decode cX8_count 112 = .ok (.bipush (-2), 2) := by decide +kernel
theorem dX8_count_114 : decode cX8_count 114 = .ok (.ireturn, 1) := by decide +kernel
theorem dX8_feed_0 : decode cX8_feed 0 = .ok (.iload_n 1, 1) := by decide +kernel
theorem dX8_feed_1 : decode cX8_feed 1 = .ok (.iconst 1, 1) := by decide +kernel
theorem dX8_feed_2 : decode cX8_feed 2 = .ok (.if_icmp .lt 8, 3) := by decide +kernel
theorem dX8_feed_5 : decode cX8_feed 5 = .ok (.iload_n 1, 1) := by decide +kernel
theorem dX8_feed_6 : decode cX8_feed 6 = .ok (.iconst 5, 1) := by decide +kernel
theorem dX8_feed_7 : decode cX8_feed 7 = .ok (.if_icmp .le 6, 3) := by decide +kernel
theorem dX8_feed_10 : decode cX8_feed 10 = .ok (.bipush (-2), 2) := by decide +kernel
theorem dX8_feed_12 : decode cX8_feed 12 = .ok (.ireturn, 1) := by decide +kernel
theorem dX8_feed_13 : decode cX8_feed 13 = .ok (.iload_n 2, 1) := by decide +kernel
theorem dX8_feed_14 : decode cX8_feed 14 = .ok (.invokestatic 122, 3) := by decide +kernel
theorem dX8_feed_17 : decode cX8_feed 17 = .ok (.ifCond .eq 34, 3) := by decide +kernel
theorem dX8_feed_20 : decode cX8_feed 20 = .ok (.iload_n 3, 1) := by decide +kernel
theorem dX8_feed_21 : decode cX8_feed 21 = .ok (.invokestatic 122, 3) := by decide +kernel
theorem dX8_feed_24 : decode cX8_feed 24 = .ok (.ifCond .eq 27, 3) := by decide +kernel
theorem dX8_feed_27 : decode cX8_feed 27 = .ok (.iload 4, 2) := by decide +kernel
theorem dX8_feed_29 : decode cX8_feed 29 = .ok (.invokestatic 122, 3) := by decide +kernel
theorem dX8_feed_32 : decode cX8_feed 32 = .ok (.ifCond .eq 19, 3) := by decide +kernel
theorem dX8_feed_35 : decode cX8_feed 35 = .ok (.iload 5, 2) := by decide +kernel
theorem dX8_feed_37 : decode cX8_feed 37 = .ok (.invokestatic 122, 3) := by decide +kernel
theorem dX8_feed_40 : decode cX8_feed 40 = .ok (.ifCond .eq 11, 3) := by decide +kernel
theorem dX8_feed_43 : decode cX8_feed 43 = .ok (.iload 6, 2) := by decide +kernel
theorem dX8_feed_45 : decode cX8_feed 45 = .ok (.invokestatic 122, 3) := by decide +kernel
theorem dX8_feed_48 : decode cX8_feed 48 = .ok (.ifCond .ne 6, 3) := by decide +kernel
theorem dX8_feed_51 : decode cX8_feed 51 = .ok (.bipush (-2), 2) := by decide +kernel
theorem dX8_feed_53 : decode cX8_feed 53 = .ok (.ireturn, 1) := by decide +kernel
theorem dX8_feed_54 : decode cX8_feed 54 = .ok (.aload_n 0, 1) := by decide +kernel
theorem dX8_feed_55 : decode cX8_feed 55 = .ok (.getfield 32, 3) := by decide +kernel
theorem dX8_feed_58 : decode cX8_feed 58 = .ok (.getfield 98, 3) := by decide +kernel
theorem dX8_feed_61 : decode cX8_feed 61 = .ok (.iload_n 1, 1) := by decide +kernel
theorem dX8_feed_62 : decode cX8_feed 62 = .ok (.iadd, 1) := by decide +kernel
theorem dX8_feed_63 : decode cX8_feed 63 = .ok (.sipush 160, 3) := by decide +kernel
theorem dX8_feed_66 : decode cX8_feed 66 = .ok (.if_icmp .le 6, 3) := by decide +kernel
theorem dX8_feed_69 : decode cX8_feed 69 = .ok (.bipush (-4), 2) := by decide +kernel
theorem dX8_feed_71 : decode cX8_feed 71 = .ok (.ireturn, 1) := by decide +kernel
theorem dX8_feed_72 : decode cX8_feed 72 = .ok (.aload_n 0, 1) := by decide +kernel
theorem dX8_feed_73 : decode cX8_feed 73 = .ok (.getfield 32, 3) := by decide +kernel
theorem dX8_feed_76 : decode cX8_feed 76 = .ok (.iload_n 2, 1) := by decide +kernel
theorem dX8_feed_77 : decode cX8_feed 77 = .ok (.invokevirtual 87, 3) := by decide +kernel
theorem dX8_feed_80 : decode cX8_feed 80 = .ok (.iload_n 1, 1) := by decide +kernel
theorem dX8_feed_81 : decode cX8_feed 81 = .ok (.iconst 1, 1) := by decide +kernel
theorem dX8_feed_82 : decode cX8_feed 82 = .ok (.if_icmp .le 11, 3) := by decide +kernel
theorem dX8_feed_85 : decode cX8_feed 85 = .ok (.aload_n 0, 1) := by decide +kernel
theorem dX8_feed_86 : decode cX8_feed 86 = .ok (.getfield 32, 3) := by decide +kernel
theorem dX8_feed_89 : decode cX8_feed 89 = .ok (.iload_n 3, 1) := by decide +kernel
theorem dX8_feed_90 : decode cX8_feed 90 = .ok (.invokevirtual 87, 3) := by decide +kernel
theorem dX8_feed_93 : decode cX8_feed 93 = .ok (.iload_n 1, 1) := by decide +kernel
theorem dX8_feed_94 : decode cX8_feed 94 = .ok (.iconst 2, 1) := by decide +kernel
theorem dX8_feed_95 : decode cX8_feed 95 = .ok (.if_icmp .le 12, 3) := by decide +kernel
theorem dX8_feed_98 : decode cX8_feed 98 = .ok (.aload_n 0, 1) := by decide +kernel
theorem dX8_feed_99 : decode cX8_feed 99 = .ok (.getfield 32, 3) := by decide +kernel
theorem dX8_feed_102 : decode cX8_feed 102 = .ok (.iload 4, 2) := by decide +kernel
theorem dX8_feed_104 : decode cX8_feed 104 = .ok (.invokevirtual 87, 3) := by decide +kernel
theorem dX8_feed_107 : decode cX8_feed 107 = .ok (.iload_n 1, 1) := by decide +kernel
theorem dX8_feed_108 : decode cX8_feed 108 = .ok (.iconst 3, 1) := by decide +kernel
theorem dX8_feed_109 : decode cX8_feed 109 = .ok (.if_icmp .le 12, 3) := by decide +kernel
theorem dX8_feed_112 : decode cX8_feed 112 = .ok (.aload_n 0, 1) := by decide +kernel
theorem dX8_feed_113 : decode cX8_feed 113 = .ok (.getfield 32, 3) := by decide +kernel
theorem dX8_feed_116 : decode cX8_feed 116 = .ok (.iload 5, 2) := by decide +kernel
theorem dX8_feed_118 : decode cX8_feed 118 = .ok (.invokevirtual 87, 3) := by decide +kernel
theorem dX8_feed_121 : decode cX8_feed 121 = .ok (.iload_n 1, 1) := by decide +kernel
theorem dX8_feed_122 : decode cX8_feed 122 = .ok (.iconst 4, 1) := by decide +kernel
theorem dX8_feed_123 : decode cX8_feed 123 = .ok (.if_icmp .le 12, 3) := by decide +kernel
theorem dX8_feed_126 : decode cX8_feed 126 = .ok (.aload_n 0, 1) := by decide +kernel
theorem dX8_feed_127 : decode cX8_feed 127 = .ok (.getfield 32, 3) := by decide +kernel
theorem dX8_feed_130 : decode cX8_feed 130 = .ok (.iload 6, 2) := by decide +kernel
theorem dX8_feed_132 : decode cX8_feed 132 = .ok (.invokevirtual 87, 3) := by decide +kernel
theorem dX8_feed_135 : decode cX8_feed 135 = .ok (.aload_n 0, 1) := by decide +kernel
theorem dX8_feed_136 : decode cX8_feed 136 = .ok (.getfield 32, 3) := by decide +kernel
theorem dX8_feed_139 : decode cX8_feed 139 = .ok (.getfield 98, 3) := by decide +kernel
theorem dX8_feed_142 : decode cX8_feed 142 = .ok (.ireturn, 1) := by decide +kernel
theorem dX8_text_0 : decode cX8_text 0 = .ok (.aload_n 0, 1) := by decide +kernel
theorem dX8_text_1 : decode cX8_text 1 = .ok (.getfield 39, 3) := by decide +kernel
theorem dX8_text_4 : decode cX8_text 4 = .ok (.getfield 116, 3) := by decide +kernel
theorem dX8_text_7 : decode cX8_text 7 = .ok (.bipush 6, 2) := by decide +kernel
theorem dX8_text_9 : decode cX8_text 9 = .ok (.if_icmp .lt 6, 3) := by decide +kernel
theorem dX8_text_12 : decode cX8_text 12 = .ok (.bipush (-4), 2) := by decide +kernel
theorem dX8_text_14 : decode cX8_text 14 = .ok (.ireturn, 1) := by decide +kernel
theorem dX8_text_15 : decode cX8_text 15 = .ok (.aload_n 0, 1) := by decide +kernel
theorem dX8_text_16 : decode cX8_text 16 = .ok (.getfield 32, 3) := by decide +kernel
theorem dX8_text_19 : decode cX8_text 19 = .ok (.invokevirtual 91, 3) := by decide +kernel
theorem dX8_text_22 : decode cX8_text 22 = .ok (.istore_n 1, 1) := by decide +kernel
theorem dX8_text_23 : decode cX8_text 23 = .ok (.aload_n 0, 1) := by decide +kernel
theorem dX8_text_24 : decode cX8_text 24 = .ok (.getfield 32, 3) := by decide +kernel
theorem dX8_text_27 : decode cX8_text 27 = .ok (.iconst 0, 1) := by decide +kernel
theorem dX8_text_28 : decode cX8_text 28 = .ok (.putfield 98, 3) := by decide +kernel
theorem dX8_text_31 : decode cX8_text 31 = .ok (.iload_n 1, 1) := by decide +kernel
theorem dX8_text_32 : decode cX8_text 32 = .ok (.ifCond .lt 10, 3) := by decide +kernel
theorem dX8_text_35 : decode cX8_text 35 = .ok (.bipush (-100), 2) := by decide +kernel
theorem dX8_text_37 : decode cX8_text 37 = .ok (.iload_n 1, 1) := by decide +kernel
theorem dX8_text_38 : decode cX8_text 38 = .ok (.isub, 1) := by decide +kernel
theorem dX8_text_39 : decode cX8_text 39 = .ok (.goto 14, 3) := by decide +kernel
theorem dX8_text_42 : decode cX8_text 42 = .ok (.aload_n 0, 1) := by decide +kernel
theorem dX8_text_43 : decode cX8_text 43 = .ok (.getfield 39, 3) := by decide +kernel
theorem dX8_text_46 : decode cX8_text 46 = .ok (.aload_n 0, 1) := by decide +kernel
theorem dX8_text_47 : decode cX8_text 47 = .ok (.getfield 32, 3) := by decide +kernel
theorem dX8_text_50 : decode cX8_text 50 = .ok (.invokevirtual 94, 3) := by decide +kernel
theorem dX8_text_53 : decode cX8_text 53 = .ok (.ireturn, 1) := by decide +kernel
theorem dX8_force_0 : decode cX8_force 0 = .ok (.iload_n 1, 1) := by decide +kernel
theorem dX8_force_1 : decode cX8_force 1 = .ok (.ifCond .lt 14, 3) := by decide +kernel
theorem dX8_force_4 : decode cX8_force 4 = .ok (.iload_n 1, 1) := by decide +kernel
theorem dX8_force_5 : decode cX8_force 5 = .ok (.aload_n 0, 1) := by decide +kernel
theorem dX8_force_6 : decode cX8_force 6 = .ok (.getfield 39, 3) := by decide +kernel
theorem dX8_force_9 : decode cX8_force 9 = .ok (.getfield 116, 3) := by decide +kernel
theorem dX8_force_12 : decode cX8_force 12 = .ok (.if_icmp .lt 6, 3) := by decide +kernel
theorem dX8_force_15 : decode cX8_force 15 = .ok (.bipush (-2), 2) := by decide +kernel
theorem dX8_force_17 : decode cX8_force 17 = .ok (.ireturn, 1) := by decide +kernel
theorem dX8_force_18 : decode cX8_force 18 = .ok (.aload_n 0, 1) := by decide +kernel
theorem dX8_force_19 : decode cX8_force 19 = .ok (.getfield 12, 3) := by decide +kernel
theorem dX8_force_22 : decode cX8_force 22 = .ok (.getfield 119, 3) := by decide +kernel
theorem dX8_force_25 : decode cX8_force 25 = .ok (.istore_n 2, 1) := by decide +kernel
theorem dX8_force_26 : decode cX8_force 26 = .ok (.aload_n 0, 1) := by decide +kernel
theorem dX8_force_27 : decode cX8_force 27 = .ok (.getfield 12, 3) := by decide +kernel
theorem dX8_force_30 : decode cX8_force 30 = .ok (.iload_n 1, 1) := by decide +kernel
theorem dX8_force_31 : decode cX8_force 31 = .ok (.putfield 119, 3) := by decide +kernel
theorem dX8_force_34 : decode cX8_force 34 = .ok (.iload_n 2, 1) := by decide +kernel
theorem dX8_force_35 : decode cX8_force 35 = .ok (.ireturn, 1) := by decide +kernel
theorem dX8_street_0 : decode cX8_street 0 = .ok (.iload_n 1, 1) := by decide +kernel
theorem dX8_street_1 : decode cX8_street 1 = .ok (.ifCond .lt 12, 3) := by decide +kernel
theorem dX8_street_4 : decode cX8_street 4 = .ok (.iload_n 1, 1) := by decide +kernel
theorem dX8_street_5 : decode cX8_street 5 = .ok (.iconst 5, 1) := by decide +kernel
theorem dX8_street_6 : decode cX8_street 6 = .ok (.if_icmp .gt 7, 3) := by decide +kernel
theorem dX8_street_9 : decode cX8_street 9 = .ok (.iload_n 2, 1) := by decide +kernel
theorem dX8_street_10 : decode cX8_street 10 = .ok (.ifCond .ge 6, 3) := by decide +kernel
theorem dX8_street_13 : decode cX8_street 13 = .ok (.bipush (-2), 2) := by decide +kernel
theorem dX8_street_15 : decode cX8_street 15 = .ok (.ireturn, 1) := by decide +kernel
theorem dX8_street_16 : decode cX8_street 16 = .ok (.iload_n 2, 1) := by decide +kernel
theorem dX8_street_17 : decode cX8_street 17 = .ok (.bipush 10, 2) := by decide +kernel
theorem dX8_street_19 : decode cX8_street 19 = .ok (.idiv, 1) := by decide +kernel
theorem dX8_street_20 : decode cX8_street 20 = .ok (.istore 5, 2) := by decide +kernel
theorem dX8_street_22 : decode cX8_street 22 = .ok (.iload_n 2, 1) := by decide +kernel
theorem dX8_street_23 : decode cX8_street 23 = .ok (.bipush 10, 2) := by decide +kernel
theorem dX8_street_25 : decode cX8_street 25 = .ok (.irem, 1) := by decide +kernel
theorem dX8_street_26 : decode cX8_street 26 = .ok (.istore 6, 2) := by decide +kernel
theorem dX8_street_28 : decode cX8_street 28 = .ok (.iload 5, 2) := by decide +kernel
theorem dX8_street_30 : decode cX8_street 30 = .ok (.invokestatic 126, 3) := by decide +kernel
theorem dX8_street_33 : decode cX8_street 33 = .ok (.ifCond .eq 18, 3) := by decide +kernel
theorem dX8_street_36 : decode cX8_street 36 = .ok (.iload 6, 2) := by decide +kernel
theorem dX8_street_38 : decode cX8_street 38 = .ok (.invokestatic 126, 3) := by decide +kernel
theorem dX8_street_41 : decode cX8_street 41 = .ok (.ifCond .eq 10, 3) := by decide +kernel
theorem dX8_street_44 : decode cX8_street 44 = .ok (.iload 5, 2) := by decide +kernel
theorem dX8_street_46 : decode cX8_street 46 = .ok (.iload 6, 2) := by decide +kernel
theorem dX8_street_48 : decode cX8_street 48 = .ok (.if_icmp .ne 6, 3) := by decide +kernel
theorem dX8_street_51 : decode cX8_street 51 = .ok (.bipush (-2), 2) := by decide +kernel
theorem dX8_street_53 : decode cX8_street 53 = .ok (.ireturn, 1) := by decide +kernel
theorem dX8_street_54 : decode cX8_street 54 = .ok (.iload_n 3, 1) := by decide +kernel
theorem dX8_street_55 : decode cX8_street 55 = .ok (.iconst 1, 1) := by decide +kernel
theorem dX8_street_56 : decode cX8_street 56 = .ok (.if_icmp .lt 21, 3) := by decide +kernel
theorem dX8_street_59 : decode cX8_street 59 = .ok (.iload_n 3, 1) := by decide +kernel
theorem dX8_street_60 : decode cX8_street 60 = .ok (.bipush 99, 2) := by decide +kernel
theorem dX8_street_62 : decode cX8_street 62 = .ok (.if_icmp .gt 15, 3) := by decide +kernel
theorem dX8_street_65 : decode cX8_street 65 = .ok (.iload 4, 2) := by decide +kernel
theorem dX8_street_67 : decode cX8_street 67 = .ok (.ifCond .lt 10, 3) := by decide +kernel
theorem dX8_street_70 : decode cX8_street 70 = .ok (.iload 4, 2) := by decide +kernel
theorem dX8_street_72 : decode cX8_street 72 = .ok (.bipush 99, 2) := by decide +kernel
theorem dX8_street_74 : decode cX8_street 74 = .ok (.if_icmp .le 6, 3) := by decide +kernel
theorem dX8_street_77 : decode cX8_street 77 = .ok (.bipush (-2), 2) := by decide +kernel
theorem dX8_street_79 : decode cX8_street 79 = .ok (.ireturn, 1) := by decide +kernel
theorem dX8_street_80 : decode cX8_street 80 = .ok (.aload_n 0, 1) := by decide +kernel
theorem dX8_street_81 : decode cX8_street 81 = .ok (.getfield 12, 3) := by decide +kernel
theorem dX8_street_84 : decode cX8_street 84 = .ok (.getfield 111, 3) := by decide +kernel
theorem dX8_street_87 : decode cX8_street 87 = .ok (.bipush 12, 2) := by decide +kernel
theorem dX8_street_89 : decode cX8_street 89 = .ok (.if_icmp .lt 6, 3) := by decide +kernel
theorem dX8_street_92 : decode cX8_street 92 = .ok (.bipush (-4), 2) := by decide +kernel
theorem dX8_street_94 : decode cX8_street 94 = .ok (.ireturn, 1) := by decide +kernel
theorem dX8_street_95 : decode cX8_street 95 = .ok (.aload_n 0, 1) := by decide +kernel
theorem dX8_street_96 : decode cX8_street 96 = .ok (.getfield 25, 3) := by decide +kernel
theorem dX8_street_99 : decode cX8_street 99 = .ok (.aload_n 0, 1) := by decide +kernel
theorem dX8_street_100 : decode cX8_street 100 = .ok (.getfield 12, 3) := by decide +kernel
theorem dX8_street_103 : decode cX8_street 103 = .ok (.getfield 111, 3) := by decide +kernel
theorem dX8_street_106 : decode cX8_street 106 = .ok (.iload_n 1, 1) := by decide +kernel
theorem dX8_street_107 : decode cX8_street 107 = .ok (.iload 5, 2) := by decide +kernel
theorem dX8_street_109 : decode cX8_street 109 = .ok (.iload 6, 2) := by decide +kernel
theorem dX8_street_111 : decode cX8_street 111 = .ok (.iload_n 3, 1) := by decide +kernel
theorem dX8_street_112 : decode cX8_street 112 = .ok (.iload 4, 2) := by decide +kernel
theorem dX8_street_114 : decode cX8_street 114 = .ok (.invokevirtual 129, 3) := by decide +kernel
theorem dX8_street_117 : decode cX8_street 117 = .ok (.aload_n 0, 1) := by decide +kernel
theorem dX8_street_118 : decode cX8_street 118 = .ok (.getfield 12, 3) := by decide +kernel
theorem dX8_street_121 : decode cX8_street 121 = .ok (.dup, 1) := by decide +kernel
theorem dX8_street_122 : decode cX8_street 122 = .ok (.getfield 111, 3) := by decide +kernel
theorem dX8_street_125 : decode cX8_street 125 = .ok (.dup_x1, 1) := by decide +kernel
theorem dX8_street_126 : decode cX8_street 126 = .ok (.iconst 1, 1) := by decide +kernel
theorem dX8_street_127 : decode cX8_street 127 = .ok (.iadd, 1) := by decide +kernel
theorem dX8_street_128 : decode cX8_street 128 = .ok (.putfield 111, 3) := by decide +kernel
theorem dX8_street_131 : decode cX8_street 131 = .ok (.ireturn, 1) := by decide +kernel
theorem dX8_close_0 : decode cX8_close 0 = .ok (.aload_n 0, 1) := by decide +kernel
theorem dX8_close_1 : decode cX8_close 1 = .ok (.getfield 12, 3) := by decide +kernel
theorem dX8_close_4 : decode cX8_close 4 = .ok (.getfield 111, 3) := by decide +kernel
theorem dX8_close_7 : decode cX8_close 7 = .ok (.ifCond .ne 6, 3) := by decide +kernel
theorem dX8_close_10 : decode cX8_close 10 = .ok (.bipush (-3), 2) := by decide +kernel
theorem dX8_close_12 : decode cX8_close 12 = .ok (.ireturn, 1) := by decide +kernel
theorem dX8_close_13 : decode cX8_close 13 = .ok (.aload_n 0, 1) := by decide +kernel
theorem dX8_close_14 : decode cX8_close 14 = .ok (.getfield 12, 3) := by decide +kernel
theorem dX8_close_17 : decode cX8_close 17 = .ok (.dup, 1) := by decide +kernel
theorem dX8_close_18 : decode cX8_close 18 = .ok (.getfield 111, 3) := by decide +kernel
theorem dX8_close_21 : decode cX8_close 21 = .ok (.iconst 1, 1) := by decide +kernel
theorem dX8_close_22 : decode cX8_close 22 = .ok (.isub, 1) := by decide +kernel
theorem dX8_close_23 : decode cX8_close 23 = .ok (.putfield 111, 3) := by decide +kernel
theorem dX8_close_26 : decode cX8_close 26 = .ok (.aload_n 0, 1) := by decide +kernel
theorem dX8_close_27 : decode cX8_close 27 = .ok (.getfield 12, 3) := by decide +kernel
theorem dX8_close_30 : decode cX8_close 30 = .ok (.dup, 1) := by decide +kernel
theorem dX8_close_31 : decode cX8_close 31 = .ok (.getfield 113, 3) := by decide +kernel
theorem dX8_close_34 : decode cX8_close 34 = .ok (.iconst 1, 1) := by decide +kernel
theorem dX8_close_35 : decode cX8_close 35 = .ok (.aload_n 0, 1) := by decide +kernel
theorem dX8_close_36 : decode cX8_close 36 = .ok (.getfield 12, 3) := by decide +kernel
theorem dX8_close_39 : decode cX8_close 39 = .ok (.getfield 111, 3) := by decide +kernel
theorem dX8_close_42 : decode cX8_close 42 = .ok (.ishl, 1) := by decide +kernel
theorem dX8_close_43 : decode cX8_close 43 = .ok (.iconst (-1), 1) := by decide +kernel
theorem dX8_close_44 : decode cX8_close 44 = .ok (.ixor, 1) := by decide +kernel
theorem dX8_close_45 : decode cX8_close 45 = .ok (.iand, 1) := by decide +kernel
theorem dX8_close_46 : decode cX8_close 46 = .ok (.putfield 113, 3) := by decide +kernel
theorem dX8_close_49 : decode cX8_close 49 = .ok (.aload_n 0, 1) := by decide +kernel
theorem dX8_close_50 : decode cX8_close 50 = .ok (.getfield 16, 3) := by decide +kernel
theorem dX8_close_53 : decode cX8_close 53 = .ok (.getfield 111, 3) := by decide +kernel
theorem dX8_close_56 : decode cX8_close 56 = .ok (.aload_n 0, 1) := by decide +kernel
theorem dX8_close_57 : decode cX8_close 57 = .ok (.getfield 12, 3) := by decide +kernel
theorem dX8_close_60 : decode cX8_close 60 = .ok (.getfield 111, 3) := by decide +kernel
theorem dX8_close_63 : decode cX8_close 63 = .ok (.if_icmp .le 8, 3) := by decide +kernel
theorem dX8_close_66 : decode cX8_close 66 = .ok (.aload_n 0, 1) := by decide +kernel
theorem dX8_close_67 : decode cX8_close 67 = .ok (.iconst 0, 1) := by decide +kernel
theorem dX8_close_68 : decode cX8_close 68 = .ok (.putfield 132, 3) := by decide +kernel
theorem dX8_close_71 : decode cX8_close 71 = .ok (.aload_n 0, 1) := by decide +kernel
theorem dX8_close_72 : decode cX8_close 72 = .ok (.getfield 12, 3) := by decide +kernel
theorem dX8_close_75 : decode cX8_close 75 = .ok (.getfield 111, 3) := by decide +kernel
theorem dX8_close_78 : decode cX8_close 78 = .ok (.ireturn, 1) := by decide +kernel
theorem dX8_told_0 : decode cX8_told 0 = .ok (.aload_n 0, 1) := by decide +kernel
theorem dX8_told_1 : decode cX8_told 1 = .ok (.iload_n 1, 1) := by decide +kernel
theorem dX8_told_2 : decode cX8_told 2 = .ok (.invokevirtual 136, 3) := by decide +kernel
theorem dX8_told_5 : decode cX8_told 5 = .ok (.ifCond .ne 6, 3) := by decide +kernel
theorem dX8_told_8 : decode cX8_told 8 = .ok (.bipush (-5), 2) := by decide +kernel
theorem dX8_told_10 : decode cX8_told 10 = .ok (.ireturn, 1) := by decide +kernel
theorem dX8_told_11 : decode cX8_told 11 = .ok (.iload_n 2, 1) := by decide +kernel
theorem dX8_told_12 : decode cX8_told 12 = .ok (.tableswitch 106 0 5 #[40, 50, 60, 70, 80, 90], 40) := by decide +kernel
theorem dX8_told_52 : decode cX8_told 52 = .ok (.aload_n 0, 1) := by decide +kernel
theorem dX8_told_53 : decode cX8_told 53 = .ok (.getfield 25, 3) := by decide +kernel
theorem dX8_told_56 : decode cX8_told 56 = .ok (.getfield 139, 3) := by decide +kernel
theorem dX8_told_59 : decode cX8_told 59 = .ok (.iload_n 1, 1) := by decide +kernel
theorem dX8_told_60 : decode cX8_told 60 = .ok (.iaload, 1) := by decide +kernel
theorem dX8_told_61 : decode cX8_told 61 = .ok (.ireturn, 1) := by decide +kernel
theorem dX8_told_62 : decode cX8_told 62 = .ok (.aload_n 0, 1) := by decide +kernel
theorem dX8_told_63 : decode cX8_told 63 = .ok (.getfield 25, 3) := by decide +kernel
theorem dX8_told_66 : decode cX8_told 66 = .ok (.getfield 143, 3) := by decide +kernel
theorem dX8_told_69 : decode cX8_told 69 = .ok (.iload_n 1, 1) := by decide +kernel
theorem dX8_told_70 : decode cX8_told 70 = .ok (.iaload, 1) := by decide +kernel
theorem dX8_told_71 : decode cX8_told 71 = .ok (.ireturn, 1) := by decide +kernel
theorem dX8_told_72 : decode cX8_told 72 = .ok (.aload_n 0, 1) := by decide +kernel
theorem dX8_told_73 : decode cX8_told 73 = .ok (.getfield 25, 3) := by decide +kernel
theorem dX8_told_76 : decode cX8_told 76 = .ok (.getfield 146, 3) := by decide +kernel
theorem dX8_told_79 : decode cX8_told 79 = .ok (.iload_n 1, 1) := by decide +kernel
theorem dX8_told_80 : decode cX8_told 80 = .ok (.iaload, 1) := by decide +kernel
theorem dX8_told_81 : decode cX8_told 81 = .ok (.ireturn, 1) := by decide +kernel
theorem dX8_told_82 : decode cX8_told 82 = .ok (.aload_n 0, 1) := by decide +kernel
theorem dX8_told_83 : decode cX8_told 83 = .ok (.getfield 25, 3) := by decide +kernel
theorem dX8_told_86 : decode cX8_told 86 = .ok (.getfield 149, 3) := by decide +kernel
theorem dX8_told_89 : decode cX8_told 89 = .ok (.iload_n 1, 1) := by decide +kernel
theorem dX8_told_90 : decode cX8_told 90 = .ok (.iaload, 1) := by decide +kernel
theorem dX8_told_91 : decode cX8_told 91 = .ok (.ireturn, 1) := by decide +kernel
theorem dX8_told_92 : decode cX8_told 92 = .ok (.aload_n 0, 1) := by decide +kernel
theorem dX8_told_93 : decode cX8_told 93 = .ok (.getfield 25, 3) := by decide +kernel
theorem dX8_told_96 : decode cX8_told 96 = .ok (.getfield 152, 3) := by decide +kernel
theorem dX8_told_99 : decode cX8_told 99 = .ok (.iload_n 1, 1) := by decide +kernel
theorem dX8_told_100 : decode cX8_told 100 = .ok (.iaload, 1) := by decide +kernel
theorem dX8_told_101 : decode cX8_told 101 = .ok (.ireturn, 1) := by decide +kernel
theorem dX8_told_102 : decode cX8_told 102 = .ok (.aload_n 0, 1) := by decide +kernel
theorem dX8_told_103 : decode cX8_told 103 = .ok (.getfield 25, 3) := by decide +kernel
theorem dX8_told_106 : decode cX8_told 106 = .ok (.iload_n 1, 1) := by decide +kernel
theorem dX8_told_107 : decode cX8_told 107 = .ok (.aload_n 0, 1) := by decide +kernel
theorem dX8_told_108 : decode cX8_told 108 = .ok (.getfield 12, 3) := by decide +kernel
theorem dX8_told_111 : decode cX8_told 111 = .ok (.getfield 111, 3) := by decide +kernel
theorem dX8_told_114 : decode cX8_told 114 = .ok (.invokevirtual 155, 3) := by decide +kernel
theorem dX8_told_117 : decode cX8_told 117 = .ok (.ireturn, 1) := by decide +kernel
theorem dX8_told_118 : decode cX8_told 118 = .ok (.bipush (-7), 2) := by decide +kernel
theorem dX8_told_120 : decode cX8_told 120 = .ok (.ireturn, 1) := by decide +kernel
theorem dX8_gone_0 : decode cX8_gone 0 = .ok (.iload_n 1, 1) := by decide +kernel
theorem dX8_gone_1 : decode cX8_gone 1 = .ok (.ifCond .lt 16, 3) := by decide +kernel
theorem dX8_gone_4 : decode cX8_gone 4 = .ok (.iload_n 1, 1) := by decide +kernel
theorem dX8_gone_5 : decode cX8_gone 5 = .ok (.iconst 1, 1) := by decide +kernel
theorem dX8_gone_6 : decode cX8_gone 6 = .ok (.aload_n 0, 1) := by decide +kernel
theorem dX8_gone_7 : decode cX8_gone 7 = .ok (.getfield 12, 3) := by decide +kernel
theorem dX8_gone_10 : decode cX8_gone 10 = .ok (.getfield 111, 3) := by decide +kernel
theorem dX8_gone_13 : decode cX8_gone 13 = .ok (.ishl, 1) := by decide +kernel
theorem dX8_gone_14 : decode cX8_gone 14 = .ok (.if_icmp .lt 6, 3) := by decide +kernel
theorem dX8_gone_17 : decode cX8_gone 17 = .ok (.bipush (-2), 2) := by decide +kernel
theorem dX8_gone_19 : decode cX8_gone 19 = .ok (.ireturn, 1) := by decide +kernel
theorem dX8_gone_20 : decode cX8_gone 20 = .ok (.aload_n 0, 1) := by decide +kernel
theorem dX8_gone_21 : decode cX8_gone 21 = .ok (.getfield 12, 3) := by decide +kernel
theorem dX8_gone_24 : decode cX8_gone 24 = .ok (.getfield 113, 3) := by decide +kernel
theorem dX8_gone_27 : decode cX8_gone 27 = .ok (.istore_n 2, 1) := by decide +kernel
theorem dX8_gone_28 : decode cX8_gone 28 = .ok (.aload_n 0, 1) := by decide +kernel
theorem dX8_gone_29 : decode cX8_gone 29 = .ok (.getfield 12, 3) := by decide +kernel
theorem dX8_gone_32 : decode cX8_gone 32 = .ok (.iload_n 1, 1) := by decide +kernel
theorem dX8_gone_33 : decode cX8_gone 33 = .ok (.putfield 113, 3) := by decide +kernel
theorem dX8_gone_36 : decode cX8_gone 36 = .ok (.iload_n 2, 1) := by decide +kernel
theorem dX8_gone_37 : decode cX8_gone 37 = .ok (.ireturn, 1) := by decide +kernel
theorem dX8_asks_0 : decode cX8_asks 0 = .ok (.aload_n 0, 1) := by decide +kernel
theorem dX8_asks_1 : decode cX8_asks 1 = .ok (.iload_n 1, 1) := by decide +kernel
theorem dX8_asks_2 : decode cX8_asks 2 = .ok (.invokevirtual 136, 3) := by decide +kernel
theorem dX8_asks_5 : decode cX8_asks 5 = .ok (.ifCond .eq 15, 3) := by decide +kernel
theorem dX8_asks_8 : decode cX8_asks 8 = .ok (.aload_n 0, 1) := by decide +kernel
theorem dX8_asks_9 : decode cX8_asks 9 = .ok (.getfield 25, 3) := by decide +kernel
theorem dX8_asks_12 : decode cX8_asks 12 = .ok (.iload_n 1, 1) := by decide +kernel
theorem dX8_asks_13 : decode cX8_asks 13 = .ok (.iload_n 2, 1) := by decide +kernel
theorem dX8_asks_14 : decode cX8_asks 14 = .ok (.invokevirtual 159, 3) := by decide +kernel
theorem dX8_asks_17 : decode cX8_asks 17 = .ok (.ifCond .ne 6, 3) := by decide +kernel
theorem dX8_asks_20 : decode cX8_asks 20 = .ok (.bipush (-5), 2) := by decide +kernel
theorem dX8_asks_22 : decode cX8_asks 22 = .ok (.ireturn, 1) := by decide +kernel
theorem dX8_asks_23 : decode cX8_asks 23 = .ok (.iload_n 3, 1) := by decide +kernel
theorem dX8_asks_24 : decode cX8_asks 24 = .ok (.ifCond .lt 8, 3) := by decide +kernel
theorem dX8_asks_27 : decode cX8_asks 27 = .ok (.iload_n 3, 1) := by decide +kernel
theorem dX8_asks_28 : decode cX8_asks 28 = .ok (.iconst 3, 1) := by decide +kernel
theorem dX8_asks_29 : decode cX8_asks 29 = .ok (.if_icmp .le 6, 3) := by decide +kernel
theorem dX8_asks_32 : decode cX8_asks 32 = .ok (.bipush (-7), 2) := by decide +kernel
theorem dX8_asks_34 : decode cX8_asks 34 = .ok (.ireturn, 1) := by decide +kernel
theorem dX8_asks_35 : decode cX8_asks 35 = .ok (.aload_n 0, 1) := by decide +kernel
theorem dX8_asks_36 : decode cX8_asks 36 = .ok (.getfield 46, 3) := by decide +kernel
theorem dX8_asks_39 : decode cX8_asks 39 = .ok (.aload_n 0, 1) := by decide +kernel
theorem dX8_asks_40 : decode cX8_asks 40 = .ok (.getfield 12, 3) := by decide +kernel
theorem dX8_asks_43 : decode cX8_asks 43 = .ok (.aload_n 0, 1) := by decide +kernel
theorem dX8_asks_44 : decode cX8_asks 44 = .ok (.getfield 25, 3) := by decide +kernel
theorem dX8_asks_47 : decode cX8_asks 47 = .ok (.aload_n 0, 1) := by decide +kernel
theorem dX8_asks_48 : decode cX8_asks 48 = .ok (.getfield 39, 3) := by decide +kernel
theorem dX8_asks_51 : decode cX8_asks 51 = .ok (.invokevirtual 163, 3) := by decide +kernel
theorem dX8_asks_54 : decode cX8_asks 54 = .ok (.iload_n 3, 1) := by decide +kernel
theorem dX8_asks_55 : decode cX8_asks 55 = .ok (.iconst 1, 1) := by decide +kernel
theorem dX8_asks_56 : decode cX8_asks 56 = .ok (.iand, 1) := by decide +kernel
theorem dX8_asks_57 : decode cX8_asks 57 = .ok (.istore 4, 2) := by decide +kernel
theorem dX8_asks_59 : decode cX8_asks 59 = .ok (.iload_n 3, 1) := by decide +kernel
theorem dX8_asks_60 : decode cX8_asks 60 = .ok (.iconst 2, 1) := by decide +kernel
theorem dX8_asks_61 : decode cX8_asks 61 = .ok (.if_icmp .ge 20, 3) := by decide +kernel
theorem dX8_asks_64 : decode cX8_asks 64 = .ok (.aload_n 0, 1) := by decide +kernel
theorem dX8_asks_65 : decode cX8_asks 65 = .ok (.getfield 46, 3) := by decide +kernel
theorem dX8_asks_68 : decode cX8_asks 68 = .ok (.iload_n 2, 1) := by decide +kernel
theorem dX8_asks_69 : decode cX8_asks 69 = .ok (.iload 4, 2) := by decide +kernel
theorem dX8_asks_71 : decode cX8_asks 71 = .ok (.invokevirtual 167, 3) := by decide +kernel
theorem dX8_asks_74 : decode cX8_asks 74 = .ok (.iload_n 1, 1) := by decide +kernel
theorem dX8_asks_75 : decode cX8_asks 75 = .ok (.ishr, 1) := by decide +kernel
theorem dX8_asks_76 : decode cX8_asks 76 = .ok (.iconst 1, 1) := by decide +kernel
theorem dX8_asks_77 : decode cX8_asks 77 = .ok (.iand, 1) := by decide +kernel
theorem dX8_asks_78 : decode cX8_asks 78 = .ok (.goto 14, 3) := by decide +kernel
theorem dX8_asks_81 : decode cX8_asks 81 = .ok (.aload_n 0, 1) := by decide +kernel
theorem dX8_asks_82 : decode cX8_asks 82 = .ok (.getfield 46, 3) := by decide +kernel
theorem dX8_asks_85 : decode cX8_asks 85 = .ok (.iload_n 1, 1) := by decide +kernel
theorem dX8_asks_86 : decode cX8_asks 86 = .ok (.iload_n 2, 1) := by decide +kernel
theorem dX8_asks_87 : decode cX8_asks 87 = .ok (.iload 4, 2) := by decide +kernel
theorem dX8_asks_89 : decode cX8_asks 89 = .ok (.invokevirtual 170, 3) := by decide +kernel
theorem dX8_asks_92 : decode cX8_asks 92 = .ok (.ireturn, 1) := by decide +kernel
theorem dX8_ring_0 : decode cX8_ring 0 = .ok (.aload_n 0, 1) := by decide +kernel
theorem dX8_ring_1 : decode cX8_ring 1 = .ok (.iload_n 1, 1) := by decide +kernel
theorem dX8_ring_2 : decode cX8_ring 2 = .ok (.iload_n 2, 1) := by decide +kernel
theorem dX8_ring_3 : decode cX8_ring 3 = .ok (.iconst 4, 1) := by decide +kernel
theorem dX8_ring_4 : decode cX8_ring 4 = .ok (.invokevirtual 174, 3) := by decide +kernel
theorem dX8_ring_7 : decode cX8_ring 7 = .ok (.istore_n 3, 1) := by decide +kernel
theorem dX8_ring_8 : decode cX8_ring 8 = .ok (.iload_n 3, 1) := by decide +kernel
theorem dX8_ring_9 : decode cX8_ring 9 = .ok (.ifCond .ge 7, 3) := by decide +kernel
theorem dX8_ring_12 : decode cX8_ring 12 = .ok (.iload_n 3, 1) := by decide +kernel
theorem dX8_ring_13 : decode cX8_ring 13 = .ok (.goto 16, 3) := by decide +kernel
theorem dX8_ring_16 : decode cX8_ring 16 = .ok (.aload_n 0, 1) := by decide +kernel
theorem dX8_ring_17 : decode cX8_ring 17 = .ok (.aload_n 0, 1) := by decide +kernel
theorem dX8_ring_18 : decode cX8_ring 18 = .ok (.getfield 12, 3) := by decide +kernel
theorem dX8_ring_21 : decode cX8_ring 21 = .ok (.iconst 1, 1) := by decide +kernel
theorem dX8_ring_22 : decode cX8_ring 22 = .ok (.iload_n 1, 1) := by decide +kernel
theorem dX8_ring_23 : decode cX8_ring 23 = .ok (.ishl, 1) := by decide +kernel
theorem dX8_ring_24 : decode cX8_ring 24 = .ok (.iconst 0, 1) := by decide +kernel
theorem dX8_ring_25 : decode cX8_ring 25 = .ok (.iload_n 2, 1) := by decide +kernel
theorem dX8_ring_26 : decode cX8_ring 26 = .ok (.invokevirtual 177, 3) := by decide +kernel
theorem dX8_ring_29 : decode cX8_ring 29 = .ok (.ireturn, 1) := by decide +kernel
theorem dX8_heavy_0 : decode cX8_heavy 0 = .ok (.aload_n 0, 1) := by decide +kernel
theorem dX8_heavy_1 : decode cX8_heavy 1 = .ok (.iload_n 1, 1) := by decide +kernel
theorem dX8_heavy_2 : decode cX8_heavy 2 = .ok (.iload_n 2, 1) := by decide +kernel
theorem dX8_heavy_3 : decode cX8_heavy 3 = .ok (.iconst 4, 1) := by decide +kernel
theorem dX8_heavy_4 : decode cX8_heavy 4 = .ok (.invokevirtual 174, 3) := by decide +kernel
theorem dX8_heavy_7 : decode cX8_heavy 7 = .ok (.istore_n 3, 1) := by decide +kernel
theorem dX8_heavy_8 : decode cX8_heavy 8 = .ok (.iload_n 3, 1) := by decide +kernel
theorem dX8_heavy_9 : decode cX8_heavy 9 = .ok (.ifCond .ge 7, 3) := by decide +kernel
theorem dX8_heavy_12 : decode cX8_heavy 12 = .ok (.iload_n 3, 1) := by decide +kernel
theorem dX8_heavy_13 : decode cX8_heavy 13 = .ok (.goto 18, 3) := by decide +kernel
theorem dX8_heavy_16 : decode cX8_heavy 16 = .ok (.aload_n 0, 1) := by decide +kernel
theorem dX8_heavy_17 : decode cX8_heavy 17 = .ok (.aload_n 0, 1) := by decide +kernel
theorem dX8_heavy_18 : decode cX8_heavy 18 = .ok (.getfield 12, 3) := by decide +kernel
theorem dX8_heavy_21 : decode cX8_heavy 21 = .ok (.iconst 1, 1) := by decide +kernel
theorem dX8_heavy_22 : decode cX8_heavy 22 = .ok (.iload_n 1, 1) := by decide +kernel
theorem dX8_heavy_23 : decode cX8_heavy 23 = .ok (.ishl, 1) := by decide +kernel
theorem dX8_heavy_24 : decode cX8_heavy 24 = .ok (.iconst 1, 1) := by decide +kernel
theorem dX8_heavy_25 : decode cX8_heavy 25 = .ok (.iload_n 1, 1) := by decide +kernel
theorem dX8_heavy_26 : decode cX8_heavy 26 = .ok (.ishl, 1) := by decide +kernel
theorem dX8_heavy_27 : decode cX8_heavy 27 = .ok (.iload_n 2, 1) := by decide +kernel
theorem dX8_heavy_28 : decode cX8_heavy 28 = .ok (.invokevirtual 177, 3) := by decide +kernel
theorem dX8_heavy_31 : decode cX8_heavy 31 = .ok (.ireturn, 1) := by decide +kernel
theorem dX8_gap_0 : decode cX8_gap 0 = .ok (.aload_n 0, 1) := by decide +kernel
theorem dX8_gap_1 : decode cX8_gap 1 = .ok (.iload_n 1, 1) := by decide +kernel
theorem dX8_gap_2 : decode cX8_gap 2 = .ok (.invokevirtual 181, 3) := by decide +kernel
theorem dX8_gap_5 : decode cX8_gap 5 = .ok (.ifCond .ne 6, 3) := by decide +kernel
theorem dX8_gap_8 : decode cX8_gap 8 = .ok (.bipush (-5), 2) := by decide +kernel
theorem dX8_gap_10 : decode cX8_gap 10 = .ok (.ireturn, 1) := by decide +kernel
theorem dX8_gap_11 : decode cX8_gap 11 = .ok (.aload_n 0, 1) := by decide +kernel
theorem dX8_gap_12 : decode cX8_gap 12 = .ok (.aload_n 0, 1) := by decide +kernel
theorem dX8_gap_13 : decode cX8_gap 13 = .ok (.getfield 12, 3) := by decide +kernel
theorem dX8_gap_16 : decode cX8_gap 16 = .ok (.iconst 1, 1) := by decide +kernel
theorem dX8_gap_17 : decode cX8_gap 17 = .ok (.iload_n 1, 1) := by decide +kernel
theorem dX8_gap_18 : decode cX8_gap 18 = .ok (.ishl, 1) := by decide +kernel
theorem dX8_gap_19 : decode cX8_gap 19 = .ok (.iconst 0, 1) := by decide +kernel
theorem dX8_gap_20 : decode cX8_gap 20 = .ok (.iconst 0, 1) := by decide +kernel
theorem dX8_gap_21 : decode cX8_gap 21 = .ok (.invokevirtual 177, 3) := by decide +kernel
theorem dX8_gap_24 : decode cX8_gap 24 = .ok (.istore_n 2, 1) := by decide +kernel
theorem dX8_gap_25 : decode cX8_gap 25 = .ok (.aload_n 0, 1) := by decide +kernel
theorem dX8_gap_26 : decode cX8_gap 26 = .ok (.aload_n 0, 1) := by decide +kernel
theorem dX8_gap_27 : decode cX8_gap 27 = .ok (.getfield 12, 3) := by decide +kernel
theorem dX8_gap_30 : decode cX8_gap 30 = .ok (.iconst 1, 1) := by decide +kernel
theorem dX8_gap_31 : decode cX8_gap 31 = .ok (.iload_n 1, 1) := by decide +kernel
theorem dX8_gap_32 : decode cX8_gap 32 = .ok (.ishl, 1) := by decide +kernel
theorem dX8_gap_33 : decode cX8_gap 33 = .ok (.iconst 1, 1) := by decide +kernel
theorem dX8_gap_34 : decode cX8_gap 34 = .ok (.iload_n 1, 1) := by decide +kernel
theorem dX8_gap_35 : decode cX8_gap 35 = .ok (.ishl, 1) := by decide +kernel
theorem dX8_gap_36 : decode cX8_gap 36 = .ok (.iconst 0, 1) := by decide +kernel
theorem dX8_gap_37 : decode cX8_gap 37 = .ok (.invokevirtual 177, 3) := by decide +kernel
theorem dX8_gap_40 : decode cX8_gap 40 = .ok (.istore_n 3, 1) := by decide +kernel
theorem dX8_gap_41 : decode cX8_gap 41 = .ok (.iload_n 2, 1) := by decide +kernel
theorem dX8_gap_42 : decode cX8_gap 42 = .ok (.ifCond .lt 7, 3) := by decide +kernel
theorem dX8_gap_45 : decode cX8_gap 45 = .ok (.iload_n 3, 1) := by decide +kernel
theorem dX8_gap_46 : decode cX8_gap 46 = .ok (.ifCond .ge 7, 3) := by decide +kernel
theorem dX8_gap_49 : decode cX8_gap 49 = .ok (.iconst (-1), 1) := by decide +kernel
theorem dX8_gap_50 : decode cX8_gap 50 = .ok (.goto 6, 3) := by decide +kernel
theorem dX8_gap_53 : decode cX8_gap 53 = .ok (.iload_n 3, 1) := by decide +kernel
theorem dX8_gap_54 : decode cX8_gap 54 = .ok (.iload_n 2, 1) := by decide +kernel
theorem dX8_gap_55 : decode cX8_gap 55 = .ok (.isub, 1) := by decide +kernel
theorem dX8_gap_56 : decode cX8_gap 56 = .ok (.ireturn, 1) := by decide +kernel
theorem dX8_calls_0 : decode cX8_calls 0 = .ok (.iload_n 1, 1) := by decide +kernel
theorem dX8_calls_1 : decode cX8_calls 1 = .ok (.invokestatic 184, 3) := by decide +kernel
theorem dX8_calls_4 : decode cX8_calls 4 = .ok (.ifCond .ne 6, 3) := by decide +kernel
theorem dX8_calls_7 : decode cX8_calls 7 = .ok (.bipush (-2), 2) := by decide +kernel
theorem dX8_calls_9 : decode cX8_calls 9 = .ok (.ireturn, 1) := by decide +kernel
theorem dX8_calls_10 : decode cX8_calls 10 = .ok (.iload_n 2, 1) := by decide +kernel
theorem dX8_calls_11 : decode cX8_calls 11 = .ok (.iconst (-1), 1) := by decide +kernel
theorem dX8_calls_12 : decode cX8_calls 12 = .ok (.if_icmp .eq 22, 3) := by decide +kernel
theorem dX8_calls_15 : decode cX8_calls 15 = .ok (.aload_n 0, 1) := by decide +kernel
theorem dX8_calls_16 : decode cX8_calls 16 = .ok (.iload_n 2, 1) := by decide +kernel
theorem dX8_calls_17 : decode cX8_calls 17 = .ok (.invokevirtual 181, 3) := by decide +kernel
theorem dX8_calls_20 : decode cX8_calls 20 = .ok (.ifCond .eq 11, 3) := by decide +kernel
theorem dX8_calls_23 : decode cX8_calls 23 = .ok (.iload_n 1, 1) := by decide +kernel
theorem dX8_calls_24 : decode cX8_calls 24 = .ok (.iload_n 2, 1) := by decide +kernel
theorem dX8_calls_25 : decode cX8_calls 25 = .ok (.ishr, 1) := by decide +kernel
theorem dX8_calls_26 : decode cX8_calls 26 = .ok (.iconst 1, 1) := by decide +kernel
theorem dX8_calls_27 : decode cX8_calls 27 = .ok (.iand, 1) := by decide +kernel
theorem dX8_calls_28 : decode cX8_calls 28 = .ok (.ifCond .ne 6, 3) := by decide +kernel
theorem dX8_calls_31 : decode cX8_calls 31 = .ok (.bipush (-5), 2) := by decide +kernel
theorem dX8_calls_33 : decode cX8_calls 33 = .ok (.ireturn, 1) := by decide +kernel
theorem dX8_calls_34 : decode cX8_calls 34 = .ok (.iload_n 3, 1) := by decide +kernel
theorem dX8_calls_35 : decode cX8_calls 35 = .ok (.ifCond .lt 8, 3) := by decide +kernel
theorem dX8_calls_38 : decode cX8_calls 38 = .ok (.iload_n 3, 1) := by decide +kernel
theorem dX8_calls_39 : decode cX8_calls 39 = .ok (.iconst 3, 1) := by decide +kernel
theorem dX8_calls_40 : decode cX8_calls 40 = .ok (.if_icmp .le 6, 3) := by decide +kernel
theorem dX8_calls_43 : decode cX8_calls 43 = .ok (.bipush (-7), 2) := by decide +kernel
theorem dX8_calls_45 : decode cX8_calls 45 = .ok (.ireturn, 1) := by decide +kernel
theorem dX8_calls_46 : decode cX8_calls 46 = .ok (.aload_n 0, 1) := by decide +kernel
theorem dX8_calls_47 : decode cX8_calls 47 = .ok (.aload_n 0, 1) := by decide +kernel
theorem dX8_calls_48 : decode cX8_calls 48 = .ok (.getfield 12, 3) := by decide +kernel
theorem dX8_calls_51 : decode cX8_calls 51 = .ok (.iload_n 1, 1) := by decide +kernel
theorem dX8_calls_52 : decode cX8_calls 52 = .ok (.iload_n 2, 1) := by decide +kernel
theorem dX8_calls_53 : decode cX8_calls 53 = .ok (.ifCond .ge 7, 3) := by decide +kernel
theorem dX8_calls_56 : decode cX8_calls 56 = .ok (.iconst 0, 1) := by decide +kernel
theorem dX8_calls_57 : decode cX8_calls 57 = .ok (.goto 6, 3) := by decide +kernel
theorem dX8_calls_60 : decode cX8_calls 60 = .ok (.iconst 1, 1) := by decide +kernel
theorem dX8_calls_61 : decode cX8_calls 61 = .ok (.iload_n 2, 1) := by decide +kernel
theorem dX8_calls_62 : decode cX8_calls 62 = .ok (.ishl, 1) := by decide +kernel
theorem dX8_calls_63 : decode cX8_calls 63 = .ok (.iload_n 3, 1) := by decide +kernel
theorem dX8_calls_64 : decode cX8_calls 64 = .ok (.invokevirtual 177, 3) := by decide +kernel
theorem dX8_calls_67 : decode cX8_calls 67 = .ok (.ireturn, 1) := by decide +kernel
theorem dX8_two_0 : decode cX8_two 0 = .ok (.iconst 1, 1) := by decide +kernel
theorem dX8_two_1 : decode cX8_two 1 = .ok (.aload_n 0, 1) := by decide +kernel
theorem dX8_two_2 : decode cX8_two 2 = .ok (.getfield 12, 3) := by decide +kernel
theorem dX8_two_5 : decode cX8_two 5 = .ok (.getfield 105, 3) := by decide +kernel
theorem dX8_two_8 : decode cX8_two 8 = .ok (.ishl, 1) := by decide +kernel
theorem dX8_two_9 : decode cX8_two 9 = .ok (.istore 4, 2) := by decide +kernel
theorem dX8_two_11 : decode cX8_two 11 = .ok (.iload_n 1, 1) := by decide +kernel
theorem dX8_two_12 : decode cX8_two 12 = .ok (.invokestatic 184, 3) := by decide +kernel
theorem dX8_two_15 : decode cX8_two 15 = .ok (.ifCond .eq 10, 3) := by decide +kernel
theorem dX8_two_18 : decode cX8_two 18 = .ok (.iload_n 2, 1) := by decide +kernel
theorem dX8_two_19 : decode cX8_two 19 = .ok (.invokestatic 184, 3) := by decide +kernel
theorem dX8_two_22 : decode cX8_two 22 = .ok (.ifCond .ne 6, 3) := by decide +kernel
theorem dX8_two_25 : decode cX8_two 25 = .ok (.bipush (-2), 2) := by decide +kernel
theorem dX8_two_27 : decode cX8_two 27 = .ok (.ireturn, 1) := by decide +kernel
theorem dX8_two_28 : decode cX8_two 28 = .ok (.iload_n 1, 1) := by decide +kernel
theorem dX8_two_29 : decode cX8_two 29 = .ok (.iload 4, 2) := by decide +kernel
theorem dX8_two_31 : decode cX8_two 31 = .ok (.iconst (-1), 1) := by decide +kernel
theorem dX8_two_32 : decode cX8_two 32 = .ok (.ixor, 1) := by decide +kernel
theorem dX8_two_33 : decode cX8_two 33 = .ok (.iand, 1) := by decide +kernel
theorem dX8_two_34 : decode cX8_two 34 = .ok (.ifCond .eq 12, 3) := by decide +kernel
theorem dX8_two_37 : decode cX8_two 37 = .ok (.iload_n 2, 1) := by decide +kernel
theorem dX8_two_38 : decode cX8_two 38 = .ok (.iload 4, 2) := by decide +kernel
theorem dX8_two_40 : decode cX8_two 40 = .ok (.iconst (-1), 1) := by decide +kernel
theorem dX8_two_41 : decode cX8_two 41 = .ok (.ixor, 1) := by decide +kernel
theorem dX8_two_42 : decode cX8_two 42 = .ok (.iand, 1) := by decide +kernel
theorem dX8_two_43 : decode cX8_two 43 = .ok (.ifCond .ne 6, 3) := by decide +kernel
theorem dX8_two_46 : decode cX8_two 46 = .ok (.bipush (-2), 2) := by decide +kernel
theorem dX8_two_48 : decode cX8_two 48 = .ok (.ireturn, 1) := by decide +kernel
theorem dX8_two_49 : decode cX8_two 49 = .ok (.iload_n 3, 1) := by decide +kernel
theorem dX8_two_50 : decode cX8_two 50 = .ok (.ifCond .lt 8, 3) := by decide +kernel
theorem dX8_two_53 : decode cX8_two 53 = .ok (.iload_n 3, 1) := by decide +kernel
theorem dX8_two_54 : decode cX8_two 54 = .ok (.iconst 1, 1) := by decide +kernel
theorem dX8_two_55 : decode cX8_two 55 = .ok (.if_icmp .le 6, 3) := by decide +kernel
theorem dX8_two_58 : decode cX8_two 58 = .ok (.bipush (-7), 2) := by decide +kernel
theorem dX8_two_60 : decode cX8_two 60 = .ok (.ireturn, 1) := by decide +kernel
theorem dX8_two_61 : decode cX8_two 61 = .ok (.aload_n 0, 1) := by decide +kernel
theorem dX8_two_62 : decode cX8_two 62 = .ok (.aload_n 0, 1) := by decide +kernel
theorem dX8_two_63 : decode cX8_two 63 = .ok (.getfield 12, 3) := by decide +kernel
theorem dX8_two_66 : decode cX8_two 66 = .ok (.sipush 512, 3) := by decide +kernel
theorem dX8_two_69 : decode cX8_two 69 = .ok (.iconst 0, 1) := by decide +kernel
theorem dX8_two_70 : decode cX8_two 70 = .ok (.invokevirtual 187, 3) := by decide +kernel
theorem dX8_two_73 : decode cX8_two 73 = .ok (.aload_n 0, 1) := by decide +kernel
theorem dX8_two_74 : decode cX8_two 74 = .ok (.getfield 53, 3) := by decide +kernel
theorem dX8_two_77 : decode cX8_two 77 = .ok (.iload_n 1, 1) := by decide +kernel
theorem dX8_two_78 : decode cX8_two 78 = .ok (.iload_n 2, 1) := by decide +kernel
theorem dX8_two_79 : decode cX8_two 79 = .ok (.aload_n 0, 1) := by decide +kernel
theorem dX8_two_80 : decode cX8_two 80 = .ok (.getfield 12, 3) := by decide +kernel
theorem dX8_two_83 : decode cX8_two 83 = .ok (.getfield 111, 3) := by decide +kernel
theorem dX8_two_86 : decode cX8_two 86 = .ok (.invokevirtual 191, 3) := by decide +kernel
theorem dX8_two_89 : decode cX8_two 89 = .ok (.istore 5, 2) := by decide +kernel
theorem dX8_two_91 : decode cX8_two 91 = .ok (.iload 5, 2) := by decide +kernel
theorem dX8_two_93 : decode cX8_two 93 = .ok (.ifCond .lt 7, 3) := by decide +kernel
theorem dX8_two_96 : decode cX8_two 96 = .ok (.iload_n 3, 1) := by decide +kernel
theorem dX8_two_97 : decode cX8_two 97 = .ok (.ifCond .ne 6, 3) := by decide +kernel
theorem dX8_two_100 : decode cX8_two 100 = .ok (.iload 5, 2) := by decide +kernel
theorem dX8_two_102 : decode cX8_two 102 = .ok (.ireturn, 1) := by decide +kernel
theorem dX8_two_103 : decode cX8_two 103 = .ok (.aload_n 0, 1) := by decide +kernel
theorem dX8_two_104 : decode cX8_two 104 = .ok (.getfield 53, 3) := by decide +kernel
theorem dX8_two_107 : decode cX8_two 107 = .ok (.iload_n 1, 1) := by decide +kernel
theorem dX8_two_108 : decode cX8_two 108 = .ok (.iload_n 2, 1) := by decide +kernel
theorem dX8_two_109 : decode cX8_two 109 = .ok (.ior, 1) := by decide +kernel
theorem dX8_two_110 : decode cX8_two 110 = .ok (.invokevirtual 194, 3) := by decide +kernel
theorem dX8_two_113 : decode cX8_two 113 = .ok (.istore 6, 2) := by decide +kernel
theorem dX8_two_115 : decode cX8_two 115 = .ok (.iload 6, 2) := by decide +kernel
theorem dX8_two_117 : decode cX8_two 117 = .ok (.ifCond .ge 7, 3) := by decide +kernel
theorem dX8_two_120 : decode cX8_two 120 = .ok (.iconst (-1), 1) := by decide +kernel
theorem dX8_two_121 : decode cX8_two 121 = .ok (.goto 15, 3) := by decide +kernel
theorem dX8_two_124 : decode cX8_two 124 = .ok (.iload 5, 2) := by decide +kernel
theorem dX8_two_126 : decode cX8_two 126 = .ok (.aload_n 0, 1) := by decide +kernel
theorem dX8_two_127 : decode cX8_two 127 = .ok (.getfield 53, 3) := by decide +kernel
theorem dX8_two_130 : decode cX8_two 130 = .ok (.iload 6, 2) := by decide +kernel
theorem dX8_two_132 : decode cX8_two 132 = .ok (.invokevirtual 197, 3) := by decide +kernel
theorem dX8_two_135 : decode cX8_two 135 = .ok (.isub, 1) := by decide +kernel
theorem dX8_two_136 : decode cX8_two 136 = .ok (.ireturn, 1) := by decide +kernel
theorem dX8_round_0 : decode cX8_round 0 = .ok (.iload_n 1, 1) := by decide +kernel
theorem dX8_round_1 : decode cX8_round 1 = .ok (.ifCond .lt 8, 3) := by decide +kernel
theorem dX8_round_4 : decode cX8_round 4 = .ok (.iload_n 1, 1) := by decide +kernel
theorem dX8_round_5 : decode cX8_round 5 = .ok (.iconst 3, 1) := by decide +kernel
theorem dX8_round_6 : decode cX8_round 6 = .ok (.if_icmp .le 8, 3) := by decide +kernel
theorem dX8_round_9 : decode cX8_round 9 = .ok (.bipush (-2), 2) := by decide +kernel
theorem dX8_round_11 : decode cX8_round 11 = .ok (.goto 14, 3) := by decide +kernel
theorem dX8_round_14 : decode cX8_round 14 = .ok (.aload_n 0, 1) := by decide +kernel
theorem dX8_round_15 : decode cX8_round 15 = .ok (.aload_n 0, 1) := by decide +kernel
theorem dX8_round_16 : decode cX8_round 16 = .ok (.getfield 12, 3) := by decide +kernel
theorem dX8_round_19 : decode cX8_round 19 = .ok (.iconst 0, 1) := by decide +kernel
theorem dX8_round_20 : decode cX8_round 20 = .ok (.iconst 0, 1) := by decide +kernel
theorem dX8_round_21 : decode cX8_round 21 = .ok (.iload_n 1, 1) := by decide +kernel
theorem dX8_round_22 : decode cX8_round 22 = .ok (.invokevirtual 177, 3) := by decide +kernel
theorem dX8_round_25 : decode cX8_round 25 = .ok (.ireturn, 1) := by decide +kernel
theorem dX8_never_0 : decode cX8_never 0 = .ok (.iload_n 1, 1) := by decide +kernel
theorem dX8_never_1 : decode cX8_never 1 = .ok (.ifCond .lt 8, 3) := by decide +kernel
theorem dX8_never_4 : decode cX8_never 4 = .ok (.iload_n 1, 1) := by decide +kernel
theorem dX8_never_5 : decode cX8_never 5 = .ok (.iconst 2, 1) := by decide +kernel
theorem dX8_never_6 : decode cX8_never 6 = .ok (.if_icmp .le 6, 3) := by decide +kernel
theorem dX8_never_9 : decode cX8_never 9 = .ok (.bipush (-2), 2) := by decide +kernel
theorem dX8_never_11 : decode cX8_never 11 = .ok (.ireturn, 1) := by decide +kernel
theorem dX8_never_12 : decode cX8_never 12 = .ok (.aload_n 0, 1) := by decide +kernel
theorem dX8_never_13 : decode cX8_never 13 = .ok (.aload_n 0, 1) := by decide +kernel
theorem dX8_never_14 : decode cX8_never 14 = .ok (.getfield 12, 3) := by decide +kernel
theorem dX8_never_17 : decode cX8_never 17 = .ok (.invokevirtual 199, 3) := by decide +kernel
theorem dX8_never_20 : decode cX8_never 20 = .ok (.istore_n 2, 1) := by decide +kernel
theorem dX8_never_21 : decode cX8_never 21 = .ok (.iload_n 1, 1) := by decide +kernel
theorem dX8_never_22 : decode cX8_never 22 = .ok (.ifCond .ne 5, 3) := by decide +kernel
theorem dX8_never_25 : decode cX8_never 25 = .ok (.iload_n 2, 1) := by decide +kernel
theorem dX8_never_26 : decode cX8_never 26 = .ok (.ireturn, 1) := by decide +kernel
theorem dX8_never_27 : decode cX8_never 27 = .ok (.aload_n 0, 1) := by decide +kernel
theorem dX8_never_28 : decode cX8_never 28 = .ok (.getfield 46, 3) := by decide +kernel
theorem dX8_never_31 : decode cX8_never 31 = .ok (.invokevirtual 203, 3) := by decide +kernel
theorem dX8_never_34 : decode cX8_never 34 = .ok (.istore_n 3, 1) := by decide +kernel
theorem dX8_never_35 : decode cX8_never 35 = .ok (.iload_n 1, 1) := by decide +kernel
theorem dX8_never_36 : decode cX8_never 36 = .ok (.iconst 1, 1) := by decide +kernel
theorem dX8_never_37 : decode cX8_never 37 = .ok (.if_icmp .ne 23, 3) := by decide +kernel
theorem dX8_never_40 : decode cX8_never 40 = .ok (.iload_n 3, 1) := by decide +kernel
theorem dX8_never_41 : decode cX8_never 41 = .ok (.iload_n 2, 1) := by decide +kernel
theorem dX8_never_42 : decode cX8_never 42 = .ok (.iconst (-1), 1) := by decide +kernel
theorem dX8_never_43 : decode cX8_never 43 = .ok (.ixor, 1) := by decide +kernel
theorem dX8_never_44 : decode cX8_never 44 = .ok (.iand, 1) := by decide +kernel
theorem dX8_never_45 : decode cX8_never 45 = .ok (.iconst 1, 1) := by decide +kernel
theorem dX8_never_46 : decode cX8_never 46 = .ok (.aload_n 0, 1) := by decide +kernel
theorem dX8_never_47 : decode cX8_never 47 = .ok (.getfield 12, 3) := by decide +kernel
theorem dX8_never_50 : decode cX8_never 50 = .ok (.getfield 105, 3) := by decide +kernel
theorem dX8_never_53 : decode cX8_never 53 = .ok (.ishl, 1) := by decide +kernel
theorem dX8_never_54 : decode cX8_never 54 = .ok (.iconst (-1), 1) := by decide +kernel
theorem dX8_never_55 : decode cX8_never 55 = .ok (.ixor, 1) := by decide +kernel
theorem dX8_never_56 : decode cX8_never 56 = .ok (.iand, 1) := by decide +kernel
theorem dX8_never_57 : decode cX8_never 57 = .ok (.goto 10, 3) := by decide +kernel
theorem dX8_never_60 : decode cX8_never 60 = .ok (.sipush 511, 3) := by decide +kernel
theorem dX8_never_63 : decode cX8_never 63 = .ok (.iload_n 3, 1) := by decide +kernel
theorem dX8_never_64 : decode cX8_never 64 = .ok (.iconst (-1), 1) := by decide +kernel
theorem dX8_never_65 : decode cX8_never 65 = .ok (.ixor, 1) := by decide +kernel
theorem dX8_never_66 : decode cX8_never 66 = .ok (.iand, 1) := by decide +kernel
theorem dX8_never_67 : decode cX8_never 67 = .ok (.ireturn, 1) := by decide +kernel
theorem dX8_bars_0 : decode cX8_bars 0 = .ok (.aload_n 0, 1) := by decide +kernel
theorem dX8_bars_1 : decode cX8_bars 1 = .ok (.iload_n 1, 1) := by decide +kernel
theorem dX8_bars_2 : decode cX8_bars 2 = .ok (.invokevirtual 181, 3) := by decide +kernel
theorem dX8_bars_5 : decode cX8_bars 5 = .ok (.ifCond .ne 6, 3) := by decide +kernel
theorem dX8_bars_8 : decode cX8_bars 8 = .ok (.bipush (-5), 2) := by decide +kernel
theorem dX8_bars_10 : decode cX8_bars 10 = .ok (.ireturn, 1) := by decide +kernel
theorem dX8_bars_11 : decode cX8_bars 11 = .ok (.aload_n 0, 1) := by decide +kernel
theorem dX8_bars_12 : decode cX8_bars 12 = .ok (.aload_n 0, 1) := by decide +kernel
theorem dX8_bars_13 : decode cX8_bars 13 = .ok (.getfield 12, 3) := by decide +kernel
theorem dX8_bars_16 : decode cX8_bars 16 = .ok (.iconst 1, 1) := by decide +kernel
theorem dX8_bars_17 : decode cX8_bars 17 = .ok (.iload_n 1, 1) := by decide +kernel
theorem dX8_bars_18 : decode cX8_bars 18 = .ok (.ishl, 1) := by decide +kernel
theorem dX8_bars_19 : decode cX8_bars 19 = .ok (.iconst 0, 1) := by decide +kernel
theorem dX8_bars_20 : decode cX8_bars 20 = .ok (.invokevirtual 187, 3) := by decide +kernel
theorem dX8_bars_23 : decode cX8_bars 23 = .ok (.aload_n 0, 1) := by decide +kernel
theorem dX8_bars_24 : decode cX8_bars 24 = .ok (.getfield 53, 3) := by decide +kernel
theorem dX8_bars_27 : decode cX8_bars 27 = .ok (.iconst 1, 1) := by decide +kernel
theorem dX8_bars_28 : decode cX8_bars 28 = .ok (.iload_n 1, 1) := by decide +kernel
theorem dX8_bars_29 : decode cX8_bars 29 = .ok (.ishl, 1) := by decide +kernel
theorem dX8_bars_30 : decode cX8_bars 30 = .ok (.invokevirtual 194, 3) := by decide +kernel
theorem dX8_bars_33 : decode cX8_bars 33 = .ok (.ifCond .ge 8, 3) := by decide +kernel
theorem dX8_bars_36 : decode cX8_bars 36 = .ok (.bipush (-3), 2) := by decide +kernel
theorem dX8_bars_38 : decode cX8_bars 38 = .ok (.goto 13, 3) := by decide +kernel
theorem dX8_bars_41 : decode cX8_bars 41 = .ok (.aload_n 0, 1) := by decide +kernel
theorem dX8_bars_42 : decode cX8_bars 42 = .ok (.getfield 53, 3) := by decide +kernel
theorem dX8_bars_45 : decode cX8_bars 45 = .ok (.iconst 1, 1) := by decide +kernel
theorem dX8_bars_46 : decode cX8_bars 46 = .ok (.iload_n 1, 1) := by decide +kernel
theorem dX8_bars_47 : decode cX8_bars 47 = .ok (.ishl, 1) := by decide +kernel
theorem dX8_bars_48 : decode cX8_bars 48 = .ok (.invokevirtual 206, 3) := by decide +kernel
theorem dX8_bars_51 : decode cX8_bars 51 = .ok (.ireturn, 1) := by decide +kernel
theorem dX8_bears_0 : decode cX8_bears 0 = .ok (.aload_n 0, 1) := by decide +kernel
theorem dX8_bears_1 : decode cX8_bears 1 = .ok (.aload_n 0, 1) := by decide +kernel
theorem dX8_bears_2 : decode cX8_bears 2 = .ok (.getfield 12, 3) := by decide +kernel
theorem dX8_bears_5 : decode cX8_bears 5 = .ok (.invokevirtual 199, 3) := by decide +kernel
theorem dX8_bears_8 : decode cX8_bears 8 = .ok (.istore_n 1, 1) := by decide +kernel
theorem dX8_bears_9 : decode cX8_bears 9 = .ok (.iconst 0, 1) := by decide +kernel
theorem dX8_bears_10 : decode cX8_bears 10 = .ok (.istore_n 2, 1) := by decide +kernel
theorem dX8_bears_11 : decode cX8_bears 11 = .ok (.iconst 0, 1) := by decide +kernel
theorem dX8_bears_12 : decode cX8_bears 12 = .ok (.istore_n 3, 1) := by decide +kernel
theorem dX8_bears_13 : decode cX8_bears 13 = .ok (.iload_n 3, 1) := by decide +kernel
theorem dX8_bears_14 : decode cX8_bears 14 = .ok (.aload_n 0, 1) := by decide +kernel
theorem dX8_bears_15 : decode cX8_bears 15 = .ok (.getfield 12, 3) := by decide +kernel
theorem dX8_bears_18 : decode cX8_bears 18 = .ok (.getfield 111, 3) := by decide +kernel
theorem dX8_bears_21 : decode cX8_bears 21 = .ok (.if_icmp .ge 27, 3) := by decide +kernel
theorem dX8_bears_24 : decode cX8_bears 24 = .ok (.aload_n 0, 1) := by decide +kernel
theorem dX8_bears_25 : decode cX8_bears 25 = .ok (.getfield 53, 3) := by decide +kernel
theorem dX8_bears_28 : decode cX8_bears 28 = .ok (.iload_n 3, 1) := by decide +kernel
theorem dX8_bears_29 : decode cX8_bears 29 = .ok (.invokevirtual 209, 3) := by decide +kernel
theorem dX8_bears_32 : decode cX8_bears 32 = .ok (.iload_n 1, 1) := by decide +kernel
theorem dX8_bears_33 : decode cX8_bears 33 = .ok (.if_icmp .eq 9, 3) := by decide +kernel
theorem dX8_bears_36 : decode cX8_bears 36 = .ok (.iload_n 2, 1) := by decide +kernel
theorem dX8_bears_37 : decode cX8_bears 37 = .ok (.iconst 1, 1) := by decide +kernel
theorem dX8_bears_38 : decode cX8_bears 38 = .ok (.iload_n 3, 1) := by decide +kernel
theorem dX8_bears_39 : decode cX8_bears 39 = .ok (.ishl, 1) := by decide +kernel
theorem dX8_bears_40 : decode cX8_bears 40 = .ok (.ior, 1) := by decide +kernel
theorem dX8_bears_41 : decode cX8_bears 41 = .ok (.istore_n 2, 1) := by decide +kernel
theorem dX8_bears_42 : decode cX8_bears 42 = .ok (.iinc 3 1, 3) := by decide +kernel
theorem dX8_bears_45 : decode cX8_bears 45 = .ok (.goto (-32), 3) := by decide +kernel
theorem dX8_bears_48 : decode cX8_bears 48 = .ok (.iload_n 2, 1) := by decide +kernel
theorem dX8_bears_49 : decode cX8_bears 49 = .ok (.ireturn, 1) := by decide +kernel
theorem dX8_part_0 : decode cX8_part 0 = .ok (.iload_n 1, 1) := by decide +kernel
theorem dX8_part_1 : decode cX8_part 1 = .ok (.invokestatic 126, 3) := by decide +kernel
theorem dX8_part_4 : decode cX8_part 4 = .ok (.ifCond .ne 6, 3) := by decide +kernel
theorem dX8_part_7 : decode cX8_part 7 = .ok (.bipush (-5), 2) := by decide +kernel
theorem dX8_part_9 : decode cX8_part 9 = .ok (.ireturn, 1) := by decide +kernel
theorem dX8_part_10 : decode cX8_part 10 = .ok (.aload_n 0, 1) := by decide +kernel
theorem dX8_part_11 : decode cX8_part 11 = .ok (.getfield 19, 3) := by decide +kernel
theorem dX8_part_14 : decode cX8_part 14 = .ok (.aload_n 0, 1) := by decide +kernel
theorem dX8_part_15 : decode cX8_part 15 = .ok (.getfield 12, 3) := by decide +kernel
theorem dX8_part_18 : decode cX8_part 18 = .ok (.invokevirtual 212, 3) := by decide +kernel
theorem dX8_part_21 : decode cX8_part 21 = .ok (.aload_n 0, 1) := by decide +kernel
theorem dX8_part_22 : decode cX8_part 22 = .ok (.getfield 19, 3) := by decide +kernel
theorem dX8_part_25 : decode cX8_part 25 = .ok (.iload_n 1, 1) := by decide +kernel
theorem dX8_part_26 : decode cX8_part 26 = .ok (.putfield 105, 3) := by decide +kernel
theorem dX8_part_29 : decode cX8_part 29 = .ok (.aload_n 0, 1) := by decide +kernel
theorem dX8_part_30 : decode cX8_part 30 = .ok (.aload_n 0, 1) := by decide +kernel
theorem dX8_part_31 : decode cX8_part 31 = .ok (.getfield 19, 3) := by decide +kernel
theorem dX8_part_34 : decode cX8_part 34 = .ok (.invokevirtual 199, 3) := by decide +kernel
theorem dX8_part_37 : decode cX8_part 37 = .ok (.ireturn, 1) := by decide +kernel
theorem dX8_house_0 : decode cX8_house 0 = .ok (.iload_n 1, 1) := by decide +kernel
theorem dX8_house_1 : decode cX8_house 1 = .ok (.invokestatic 184, 3) := by decide +kernel
theorem dX8_house_4 : decode cX8_house 4 = .ok (.ifCond .ne 6, 3) := by decide +kernel
theorem dX8_house_7 : decode cX8_house 7 = .ok (.bipush (-2), 2) := by decide +kernel
theorem dX8_house_9 : decode cX8_house 9 = .ok (.ireturn, 1) := by decide +kernel
theorem dX8_house_10 : decode cX8_house 10 = .ok (.iload_n 2, 1) := by decide +kernel
theorem dX8_house_11 : decode cX8_house 11 = .ok (.ifCond .lt 8, 3) := by decide +kernel
theorem dX8_house_14 : decode cX8_house 14 = .ok (.iload_n 2, 1) := by decide +kernel
theorem dX8_house_15 : decode cX8_house 15 = .ok (.iconst 1, 1) := by decide +kernel
theorem dX8_house_16 : decode cX8_house 16 = .ok (.if_icmp .le 6, 3) := by decide +kernel
theorem dX8_house_19 : decode cX8_house 19 = .ok (.bipush (-7), 2) := by decide +kernel
theorem dX8_house_21 : decode cX8_house 21 = .ok (.ireturn, 1) := by decide +kernel
theorem dX8_house_22 : decode cX8_house 22 = .ok (.iconst (-1), 1) := by decide +kernel
theorem dX8_house_23 : decode cX8_house 23 = .ok (.istore_n 3, 1) := by decide +kernel
theorem dX8_house_24 : decode cX8_house 24 = .ok (.iconst (-1), 1) := by decide +kernel
theorem dX8_house_25 : decode cX8_house 25 = .ok (.istore 4, 2) := by decide +kernel
theorem dX8_house_27 : decode cX8_house 27 = .ok (.iconst 0, 1) := by decide +kernel
theorem dX8_house_28 : decode cX8_house 28 = .ok (.istore 5, 2) := by decide +kernel
theorem dX8_house_30 : decode cX8_house 30 = .ok (.iload 5, 2) := by decide +kernel
theorem dX8_house_32 : decode cX8_house 32 = .ok (.bipush 9, 2) := by decide +kernel
theorem dX8_house_34 : decode cX8_house 34 = .ok (.if_icmp .ge 41, 3) := by decide +kernel
theorem dX8_house_37 : decode cX8_house 37 = .ok (.aload_n 0, 1) := by decide +kernel
theorem dX8_house_38 : decode cX8_house 38 = .ok (.iload 5, 2) := by decide +kernel
theorem dX8_house_40 : decode cX8_house 40 = .ok (.iload_n 1, 1) := by decide +kernel
theorem dX8_house_41 : decode cX8_house 41 = .ok (.invokevirtual 216, 3) := by decide +kernel
theorem dX8_house_44 : decode cX8_house 44 = .ok (.istore 6, 2) := by decide +kernel
theorem dX8_house_46 : decode cX8_house 46 = .ok (.iload 6, 2) := by decide +kernel
theorem dX8_house_48 : decode cX8_house 48 = .ok (.ifCond .lt 21, 3) := by decide +kernel
theorem dX8_house_51 : decode cX8_house 51 = .ok (.iload_n 3, 1) := by decide +kernel
theorem dX8_house_52 : decode cX8_house 52 = .ok (.ifCond .lt 10, 3) := by decide +kernel
theorem dX8_house_55 : decode cX8_house 55 = .ok (.iload 6, 2) := by decide +kernel
theorem dX8_house_57 : decode cX8_house 57 = .ok (.iload 4, 2) := by decide +kernel
theorem dX8_house_59 : decode cX8_house 59 = .ok (.if_icmp .ge 10, 3) := by decide +kernel
theorem dX8_house_62 : decode cX8_house 62 = .ok (.iload 5, 2) := by decide +kernel
theorem dX8_house_64 : decode cX8_house 64 = .ok (.istore_n 3, 1) := by decide +kernel
theorem dX8_house_65 : decode cX8_house 65 = .ok (.iload 6, 2) := by decide +kernel
theorem dX8_house_67 : decode cX8_house 67 = .ok (.istore 4, 2) := by decide +kernel
theorem dX8_house_69 : decode cX8_house 69 = .ok (.iinc 5 1, 3) := by decide +kernel
theorem dX8_house_72 : decode cX8_house 72 = .ok (.goto (-42), 3) := by decide +kernel
theorem dX8_house_75 : decode cX8_house 75 = .ok (.iload_n 2, 1) := by decide +kernel
theorem dX8_house_76 : decode cX8_house 76 = .ok (.ifCond .ne 7, 3) := by decide +kernel
theorem dX8_house_79 : decode cX8_house 79 = .ok (.iload_n 3, 1) := by decide +kernel
theorem dX8_house_80 : decode cX8_house 80 = .ok (.goto 5, 3) := by decide +kernel
theorem dX8_house_83 : decode cX8_house 83 = .ok (.iload 4, 2) := by decide +kernel
theorem dX8_house_85 : decode cX8_house 85 = .ok (.ireturn, 1) := by decide +kernel
theorem dX8_lane_0 : decode cX8_lane 0 = .ok (.iload_n 1, 1) := by decide +kernel
theorem dX8_lane_1 : decode cX8_lane 1 = .ok (.iconst 1, 1) := by decide +kernel
theorem dX8_lane_2 : decode cX8_lane 2 = .ok (.if_icmp .lt 9, 3) := by decide +kernel
theorem dX8_lane_5 : decode cX8_lane 5 = .ok (.iload_n 1, 1) := by decide +kernel
theorem dX8_lane_6 : decode cX8_lane 6 = .ok (.bipush 99, 2) := by decide +kernel
theorem dX8_lane_8 : decode cX8_lane 8 = .ok (.if_icmp .le 6, 3) := by decide +kernel
theorem dX8_lane_11 : decode cX8_lane 11 = .ok (.bipush (-2), 2) := by decide +kernel
theorem dX8_lane_13 : decode cX8_lane 13 = .ok (.ireturn, 1) := by decide +kernel
theorem dX8_lane_14 : decode cX8_lane 14 = .ok (.iload_n 2, 1) := by decide +kernel
theorem dX8_lane_15 : decode cX8_lane 15 = .ok (.ifCond .lt 8, 3) := by decide +kernel
theorem dX8_lane_18 : decode cX8_lane 18 = .ok (.iload_n 2, 1) := by decide +kernel
theorem dX8_lane_19 : decode cX8_lane 19 = .ok (.iconst 1, 1) := by decide +kernel
theorem dX8_lane_20 : decode cX8_lane 20 = .ok (.if_icmp .le 6, 3) := by decide +kernel
theorem dX8_lane_23 : decode cX8_lane 23 = .ok (.bipush (-7), 2) := by decide +kernel
theorem dX8_lane_25 : decode cX8_lane 25 = .ok (.ireturn, 1) := by decide +kernel
theorem dX8_lane_26 : decode cX8_lane 26 = .ok (.aload_n 0, 1) := by decide +kernel
theorem dX8_lane_27 : decode cX8_lane 27 = .ok (.aload_n 0, 1) := by decide +kernel
theorem dX8_lane_28 : decode cX8_lane 28 = .ok (.getfield 12, 3) := by decide +kernel
theorem dX8_lane_31 : decode cX8_lane 31 = .ok (.invokevirtual 199, 3) := by decide +kernel
theorem dX8_lane_34 : decode cX8_lane 34 = .ok (.istore_n 3, 1) := by decide +kernel
theorem dX8_lane_35 : decode cX8_lane 35 = .ok (.iload_n 3, 1) := by decide +kernel
theorem dX8_lane_36 : decode cX8_lane 36 = .ok (.invokestatic 219, 3) := by decide +kernel
theorem dX8_lane_39 : decode cX8_lane 39 = .ok (.istore 4, 2) := by decide +kernel
theorem dX8_lane_41 : decode cX8_lane 41 = .ok (.iconst (-1), 1) := by decide +kernel
theorem dX8_lane_42 : decode cX8_lane 42 = .ok (.istore 5, 2) := by decide +kernel
theorem dX8_lane_44 : decode cX8_lane 44 = .ok (.iconst 0, 1) := by decide +kernel
theorem dX8_lane_45 : decode cX8_lane 45 = .ok (.istore 6, 2) := by decide +kernel
theorem dX8_lane_47 : decode cX8_lane 47 = .ok (.iload 6, 2) := by decide +kernel
theorem dX8_lane_49 : decode cX8_lane 49 = .ok (.bipush 9, 2) := by decide +kernel
theorem dX8_lane_51 : decode cX8_lane 51 = .ok (.if_icmp .ge 71, 3) := by decide +kernel
theorem dX8_lane_54 : decode cX8_lane 54 = .ok (.iload 6, 2) := by decide +kernel
theorem dX8_lane_56 : decode cX8_lane 56 = .ok (.iconst 1, 1) := by decide +kernel
theorem dX8_lane_57 : decode cX8_lane 57 = .ok (.iadd, 1) := by decide +kernel
theorem dX8_lane_58 : decode cX8_lane 58 = .ok (.istore 7, 2) := by decide +kernel
theorem dX8_lane_60 : decode cX8_lane 60 = .ok (.iload 7, 2) := by decide +kernel
theorem dX8_lane_62 : decode cX8_lane 62 = .ok (.bipush 9, 2) := by decide +kernel
theorem dX8_lane_64 : decode cX8_lane 64 = .ok (.if_icmp .ge 52, 3) := by decide +kernel
theorem dX8_lane_67 : decode cX8_lane 67 = .ok (.iload_n 3, 1) := by decide +kernel
theorem dX8_lane_68 : decode cX8_lane 68 = .ok (.aload_n 0, 1) := by decide +kernel
theorem dX8_lane_69 : decode cX8_lane 69 = .ok (.getfield 53, 3) := by decide +kernel
theorem dX8_lane_72 : decode cX8_lane 72 = .ok (.aload_n 0, 1) := by decide +kernel
theorem dX8_lane_73 : decode cX8_lane 73 = .ok (.getfield 46, 3) := by decide +kernel
theorem dX8_lane_76 : decode cX8_lane 76 = .ok (.iload 6, 2) := by decide +kernel
theorem dX8_lane_78 : decode cX8_lane 78 = .ok (.iload 7, 2) := by decide +kernel
theorem dX8_lane_80 : decode cX8_lane 80 = .ok (.invokevirtual 224, 3) := by decide +kernel
theorem dX8_lane_83 : decode cX8_lane 83 = .ok (.ior, 1) := by decide +kernel
theorem dX8_lane_84 : decode cX8_lane 84 = .ok (.invokestatic 219, 3) := by decide +kernel
theorem dX8_lane_87 : decode cX8_lane 87 = .ok (.istore 8, 2) := by decide +kernel
theorem dX8_lane_89 : decode cX8_lane 89 = .ok (.iload 8, 2) := by decide +kernel
theorem dX8_lane_91 : decode cX8_lane 91 = .ok (.iload 4, 2) := by decide +kernel
theorem dX8_lane_93 : decode cX8_lane 93 = .ok (.if_icmp .le 17, 3) := by decide +kernel
theorem dX8_lane_96 : decode cX8_lane 96 = .ok (.iload 8, 2) := by decide +kernel
theorem dX8_lane_98 : decode cX8_lane 98 = .ok (.istore 4, 2) := by decide +kernel
theorem dX8_lane_100 : decode cX8_lane 100 = .ok (.bipush 10, 2) := by decide +kernel
theorem dX8_lane_102 : decode cX8_lane 102 = .ok (.iload 6, 2) := by decide +kernel
theorem dX8_lane_104 : decode cX8_lane 104 = .ok (.imul, 1) := by decide +kernel
theorem dX8_lane_105 : decode cX8_lane 105 = .ok (.iload 7, 2) := by decide +kernel
theorem dX8_lane_107 : decode cX8_lane 107 = .ok (.iadd, 1) := by decide +kernel
theorem dX8_lane_108 : decode cX8_lane 108 = .ok (.istore 5, 2) := by decide +kernel
theorem dX8_lane_110 : decode cX8_lane 110 = .ok (.iinc 7 1, 3) := by decide +kernel
theorem dX8_lane_113 : decode cX8_lane 113 = .ok (.goto (-53), 3) := by decide +kernel
theorem dX8_lane_116 : decode cX8_lane 116 = .ok (.iinc 6 1, 3) := by decide +kernel
theorem dX8_lane_119 : decode cX8_lane 119 = .ok (.goto (-72), 3) := by decide +kernel
theorem dX8_lane_122 : decode cX8_lane 122 = .ok (.iload_n 2, 1) := by decide +kernel
theorem dX8_lane_123 : decode cX8_lane 123 = .ok (.ifCond .ne 8, 3) := by decide +kernel
theorem dX8_lane_126 : decode cX8_lane 126 = .ok (.iload 5, 2) := by decide +kernel
theorem dX8_lane_128 : decode cX8_lane 128 = .ok (.goto 5, 3) := by decide +kernel
theorem dX8_lane_131 : decode cX8_lane 131 = .ok (.iload 4, 2) := by decide +kernel
theorem dX8_lane_133 : decode cX8_lane 133 = .ok (.ireturn, 1) := by decide +kernel
theorem dX8_newly_0 : decode cX8_newly 0 = .ok (.aload_n 0, 1) := by decide +kernel
theorem dX8_newly_1 : decode cX8_newly 1 = .ok (.getfield 12, 3) := by decide +kernel
theorem dX8_newly_4 : decode cX8_newly 4 = .ok (.getfield 111, 3) := by decide +kernel
theorem dX8_newly_7 : decode cX8_newly 7 = .ok (.istore_n 1, 1) := by decide +kernel
theorem dX8_newly_8 : decode cX8_newly 8 = .ok (.aload_n 0, 1) := by decide +kernel
theorem dX8_newly_9 : decode cX8_newly 9 = .ok (.getfield 25, 3) := by decide +kernel
theorem dX8_newly_12 : decode cX8_newly 12 = .ok (.iload_n 1, 1) := by decide +kernel
theorem dX8_newly_13 : decode cX8_newly 13 = .ok (.invokevirtual 228, 3) := by decide +kernel
theorem dX8_newly_16 : decode cX8_newly 16 = .ok (.istore_n 2, 1) := by decide +kernel
theorem dX8_newly_17 : decode cX8_newly 17 = .ok (.aload_n 0, 1) := by decide +kernel
theorem dX8_newly_18 : decode cX8_newly 18 = .ok (.getfield 25, 3) := by decide +kernel
theorem dX8_newly_21 : decode cX8_newly 21 = .ok (.iload_n 1, 1) := by decide +kernel
theorem dX8_newly_22 : decode cX8_newly 22 = .ok (.invokevirtual 231, 3) := by decide +kernel
theorem dX8_newly_25 : decode cX8_newly 25 = .ok (.istore_n 3, 1) := by decide +kernel
theorem dX8_newly_26 : decode cX8_newly 26 = .ok (.iconst 0, 1) := by decide +kernel
theorem dX8_newly_27 : decode cX8_newly 27 = .ok (.istore 4, 2) := by decide +kernel
theorem dX8_newly_29 : decode cX8_newly 29 = .ok (.iconst 0, 1) := by decide +kernel
theorem dX8_newly_30 : decode cX8_newly 30 = .ok (.istore 5, 2) := by decide +kernel
theorem dX8_newly_32 : decode cX8_newly 32 = .ok (.iconst 0, 1) := by decide +kernel
theorem dX8_newly_33 : decode cX8_newly 33 = .ok (.istore 6, 2) := by decide +kernel
theorem dX8_newly_35 : decode cX8_newly 35 = .ok (.iconst 0, 1) := by decide +kernel
theorem dX8_newly_36 : decode cX8_newly 36 = .ok (.istore 7, 2) := by decide +kernel
theorem dX8_newly_38 : decode cX8_newly 38 = .ok (.iload 7, 2) := by decide +kernel
theorem dX8_newly_40 : decode cX8_newly 40 = .ok (.bipush 9, 2) := by decide +kernel
theorem dX8_newly_42 : decode cX8_newly 42 = .ok (.if_icmp .ge 78, 3) := by decide +kernel
theorem dX8_newly_45 : decode cX8_newly 45 = .ok (.iload_n 3, 1) := by decide +kernel
theorem dX8_newly_46 : decode cX8_newly 46 = .ok (.iload 7, 2) := by decide +kernel
theorem dX8_newly_48 : decode cX8_newly 48 = .ok (.ishr, 1) := by decide +kernel
theorem dX8_newly_49 : decode cX8_newly 49 = .ok (.iconst 1, 1) := by decide +kernel
theorem dX8_newly_50 : decode cX8_newly 50 = .ok (.iand, 1) := by decide +kernel
theorem dX8_newly_51 : decode cX8_newly 51 = .ok (.ifCond .ne 6, 3) := by decide +kernel
theorem dX8_newly_54 : decode cX8_newly 54 = .ok (.goto 60, 3) := by decide +kernel
theorem dX8_newly_57 : decode cX8_newly 57 = .ok (.aload_n 0, 1) := by decide +kernel
theorem dX8_newly_58 : decode cX8_newly 58 = .ok (.getfield 25, 3) := by decide +kernel
theorem dX8_newly_61 : decode cX8_newly 61 = .ok (.iconst 1, 1) := by decide +kernel
theorem dX8_newly_62 : decode cX8_newly 62 = .ok (.iload 7, 2) := by decide +kernel
theorem dX8_newly_64 : decode cX8_newly 64 = .ok (.ishl, 1) := by decide +kernel
theorem dX8_newly_65 : decode cX8_newly 65 = .ok (.iload_n 2, 1) := by decide +kernel
theorem dX8_newly_66 : decode cX8_newly 66 = .ok (.iconst (-1), 1) := by decide +kernel
theorem dX8_newly_67 : decode cX8_newly 67 = .ok (.ixor, 1) := by decide +kernel
theorem dX8_newly_68 : decode cX8_newly 68 = .ok (.iload_n 1, 1) := by decide +kernel
theorem dX8_newly_69 : decode cX8_newly 69 = .ok (.invokevirtual 234, 3) := by decide +kernel
theorem dX8_newly_72 : decode cX8_newly 72 = .ok (.istore 8, 2) := by decide +kernel
theorem dX8_newly_74 : decode cX8_newly 74 = .ok (.aload_n 0, 1) := by decide +kernel
theorem dX8_newly_75 : decode cX8_newly 75 = .ok (.getfield 25, 3) := by decide +kernel
theorem dX8_newly_78 : decode cX8_newly 78 = .ok (.iload 8, 2) := by decide +kernel
theorem dX8_newly_80 : decode cX8_newly 80 = .ok (.iload_n 2, 1) := by decide +kernel
theorem dX8_newly_81 : decode cX8_newly 81 = .ok (.iload_n 1, 1) := by decide +kernel
theorem dX8_newly_82 : decode cX8_newly 82 = .ok (.invokevirtual 237, 3) := by decide +kernel
theorem dX8_newly_85 : decode cX8_newly 85 = .ok (.istore 9, 2) := by decide +kernel
theorem dX8_newly_87 : decode cX8_newly 87 = .ok (.iload_n 3, 1) := by decide +kernel
theorem dX8_newly_88 : decode cX8_newly 88 = .ok (.iload 8, 2) := by decide +kernel
theorem dX8_newly_90 : decode cX8_newly 90 = .ok (.iconst (-1), 1) := by decide +kernel
theorem dX8_newly_91 : decode cX8_newly 91 = .ok (.ixor, 1) := by decide +kernel
theorem dX8_newly_92 : decode cX8_newly 92 = .ok (.iand, 1) := by decide +kernel
theorem dX8_newly_93 : decode cX8_newly 93 = .ok (.istore_n 3, 1) := by decide +kernel
theorem dX8_newly_94 : decode cX8_newly 94 = .ok (.iinc 4 1, 3) := by decide +kernel
theorem dX8_newly_97 : decode cX8_newly 97 = .ok (.iload 9, 2) := by decide +kernel
theorem dX8_newly_99 : decode cX8_newly 99 = .ok (.ifCond .ne 6, 3) := by decide +kernel
theorem dX8_newly_102 : decode cX8_newly 102 = .ok (.iinc 5 1, 3) := by decide +kernel
theorem dX8_newly_105 : decode cX8_newly 105 = .ok (.iload 9, 2) := by decide +kernel
theorem dX8_newly_107 : decode cX8_newly 107 = .ok (.iconst 1, 1) := by decide +kernel
theorem dX8_newly_108 : decode cX8_newly 108 = .ok (.if_icmp .ne 6, 3) := by decide +kernel
theorem dX8_newly_111 : decode cX8_newly 111 = .ok (.iinc 6 1, 3) := by decide +kernel
theorem dX8_newly_114 : decode cX8_newly 114 = .ok (.iinc 7 1, 3) := by decide +kernel
theorem dX8_newly_117 : decode cX8_newly 117 = .ok (.goto (-79), 3) := by decide +kernel
theorem dX8_newly_120 : decode cX8_newly 120 = .ok (.iload 4, 2) := by decide +kernel
theorem dX8_newly_122 : decode cX8_newly 122 = .ok (.iconst 2, 1) := by decide +kernel
theorem dX8_newly_123 : decode cX8_newly 123 = .ok (.if_icmp .ge 7, 3) := by decide +kernel
theorem dX8_newly_126 : decode cX8_newly 126 = .ok (.iconst 0, 1) := by decide +kernel
theorem dX8_newly_127 : decode cX8_newly 127 = .ok (.goto 12, 3) := by decide +kernel
theorem dX8_newly_130 : decode cX8_newly 130 = .ok (.iload 5, 2) := by decide +kernel
theorem dX8_newly_132 : decode cX8_newly 132 = .ok (.iload 6, 2) := by decide +kernel
theorem dX8_newly_134 : decode cX8_newly 134 = .ok (.iconst 1, 1) := by decide +kernel
theorem dX8_newly_135 : decode cX8_newly 135 = .ok (.iadd, 1) := by decide +kernel
theorem dX8_newly_136 : decode cX8_newly 136 = .ok (.iconst 2, 1) := by decide +kernel
theorem dX8_newly_137 : decode cX8_newly 137 = .ok (.idiv, 1) := by decide +kernel
theorem dX8_newly_138 : decode cX8_newly 138 = .ok (.iadd, 1) := by decide +kernel
theorem dX8_newly_139 : decode cX8_newly 139 = .ok (.ireturn, 1) := by decide +kernel
theorem dX8_bond_0 : decode cX8_bond 0 = .ok (.iload_n 1, 1) := by decide +kernel
theorem dX8_bond_1 : decode cX8_bond 1 = .ok (.invokestatic 126, 3) := by decide +kernel
theorem dX8_bond_4 : decode cX8_bond 4 = .ok (.ifCond .ne 6, 3) := by decide +kernel
theorem dX8_bond_7 : decode cX8_bond 7 = .ok (.bipush (-5), 2) := by decide +kernel
theorem dX8_bond_9 : decode cX8_bond 9 = .ok (.ireturn, 1) := by decide +kernel
theorem dX8_bond_10 : decode cX8_bond 10 = .ok (.iload_n 2, 1) := by decide +kernel
theorem dX8_bond_11 : decode cX8_bond 11 = .ok (.ifCond .lt 8, 3) := by decide +kernel
theorem dX8_bond_14 : decode cX8_bond 14 = .ok (.iload_n 2, 1) := by decide +kernel
theorem dX8_bond_15 : decode cX8_bond 15 = .ok (.iconst 1, 1) := by decide +kernel
theorem dX8_bond_16 : decode cX8_bond 16 = .ok (.if_icmp .le 6, 3) := by decide +kernel
theorem dX8_bond_19 : decode cX8_bond 19 = .ok (.bipush (-7), 2) := by decide +kernel
theorem dX8_bond_21 : decode cX8_bond 21 = .ok (.ireturn, 1) := by decide +kernel
theorem dX8_bond_22 : decode cX8_bond 22 = .ok (.aload_n 0, 1) := by decide +kernel
theorem dX8_bond_23 : decode cX8_bond 23 = .ok (.getfield 25, 3) := by decide +kernel
theorem dX8_bond_26 : decode cX8_bond 26 = .ok (.aload_n 0, 1) := by decide +kernel
theorem dX8_bond_27 : decode cX8_bond 27 = .ok (.getfield 12, 3) := by decide +kernel
theorem dX8_bond_30 : decode cX8_bond 30 = .ok (.getfield 111, 3) := by decide +kernel
theorem dX8_bond_33 : decode cX8_bond 33 = .ok (.invokevirtual 228, 3) := by decide +kernel
theorem dX8_bond_36 : decode cX8_bond 36 = .ok (.istore_n 3, 1) := by decide +kernel
theorem dX8_bond_37 : decode cX8_bond 37 = .ok (.iload_n 2, 1) := by decide +kernel
theorem dX8_bond_38 : decode cX8_bond 38 = .ok (.ifCond .ne 7, 3) := by decide +kernel
theorem dX8_bond_41 : decode cX8_bond 41 = .ok (.iload_n 3, 1) := by decide +kernel
theorem dX8_bond_42 : decode cX8_bond 42 = .ok (.goto 23, 3) := by decide +kernel
theorem dX8_bond_45 : decode cX8_bond 45 = .ok (.aload_n 0, 1) := by decide +kernel
theorem dX8_bond_46 : decode cX8_bond 46 = .ok (.getfield 25, 3) := by decide +kernel
theorem dX8_bond_49 : decode cX8_bond 49 = .ok (.iconst 1, 1) := by decide +kernel
theorem dX8_bond_50 : decode cX8_bond 50 = .ok (.iload_n 1, 1) := by decide +kernel
theorem dX8_bond_51 : decode cX8_bond 51 = .ok (.ishl, 1) := by decide +kernel
theorem dX8_bond_52 : decode cX8_bond 52 = .ok (.iload_n 3, 1) := by decide +kernel
theorem dX8_bond_53 : decode cX8_bond 53 = .ok (.iconst (-1), 1) := by decide +kernel
theorem dX8_bond_54 : decode cX8_bond 54 = .ok (.ixor, 1) := by decide +kernel
theorem dX8_bond_55 : decode cX8_bond 55 = .ok (.aload_n 0, 1) := by decide +kernel
theorem dX8_bond_56 : decode cX8_bond 56 = .ok (.getfield 12, 3) := by decide +kernel
theorem dX8_bond_59 : decode cX8_bond 59 = .ok (.getfield 111, 3) := by decide +kernel
theorem dX8_bond_62 : decode cX8_bond 62 = .ok (.invokevirtual 234, 3) := by decide +kernel
theorem dX8_bond_65 : decode cX8_bond 65 = .ok (.ireturn, 1) := by decide +kernel
theorem dX8_hours_0 : decode cX8_hours 0 = .ok (.aload_n 0, 1) := by decide +kernel
theorem dX8_hours_1 : decode cX8_hours 1 = .ok (.iload_n 1, 1) := by decide +kernel
theorem dX8_hours_2 : decode cX8_hours 2 = .ok (.iload_n 2, 1) := by decide +kernel
theorem dX8_hours_3 : decode cX8_hours 3 = .ok (.iconst 2, 1) := by decide +kernel
theorem dX8_hours_4 : decode cX8_hours 4 = .ok (.invokevirtual 174, 3) := by decide +kernel
theorem dX8_hours_7 : decode cX8_hours 7 = .ok (.istore_n 3, 1) := by decide +kernel
theorem dX8_hours_8 : decode cX8_hours 8 = .ok (.iload_n 3, 1) := by decide +kernel
theorem dX8_hours_9 : decode cX8_hours 9 = .ok (.ifCond .ge 5, 3) := by decide +kernel
theorem dX8_hours_12 : decode cX8_hours 12 = .ok (.iload_n 3, 1) := by decide +kernel
theorem dX8_hours_13 : decode cX8_hours 13 = .ok (.ireturn, 1) := by decide +kernel
theorem dX8_hours_14 : decode cX8_hours 14 = .ok (.aload_n 0, 1) := by decide +kernel
theorem dX8_hours_15 : decode cX8_hours 15 = .ok (.getfield 39, 3) := by decide +kernel
theorem dX8_hours_18 : decode cX8_hours 18 = .ok (.aload_n 0, 1) := by decide +kernel
theorem dX8_hours_19 : decode cX8_hours 19 = .ok (.getfield 12, 3) := by decide +kernel
theorem dX8_hours_22 : decode cX8_hours 22 = .ok (.getfield 119, 3) := by decide +kernel
theorem dX8_hours_25 : decode cX8_hours 25 = .ok (.sipush 264, 3) := by decide +kernel
theorem dX8_hours_28 : decode cX8_hours 28 = .ok (.invokevirtual 240, 3) := by decide +kernel
theorem dX8_hours_31 : decode cX8_hours 31 = .ok (.istore 4, 2) := by decide +kernel
theorem dX8_hours_33 : decode cX8_hours 33 = .ok (.iconst 0, 1) := by decide +kernel
theorem dX8_hours_34 : decode cX8_hours 34 = .ok (.istore 5, 2) := by decide +kernel
theorem dX8_hours_36 : decode cX8_hours 36 = .ok (.iconst (-1), 1) := by decide +kernel
theorem dX8_hours_37 : decode cX8_hours 37 = .ok (.istore 6, 2) := by decide +kernel
theorem dX8_hours_39 : decode cX8_hours 39 = .ok (.iconst 0, 1) := by decide +kernel
theorem dX8_hours_40 : decode cX8_hours 40 = .ok (.istore 7, 2) := by decide +kernel
theorem dX8_hours_42 : decode cX8_hours 42 = .ok (.iconst (-1), 1) := by decide +kernel
theorem dX8_hours_43 : decode cX8_hours 43 = .ok (.istore 8, 2) := by decide +kernel
theorem dX8_hours_45 : decode cX8_hours 45 = .ok (.aload_n 0, 1) := by decide +kernel
theorem dX8_hours_46 : decode cX8_hours 46 = .ok (.getfield 19, 3) := by decide +kernel
theorem dX8_hours_49 : decode cX8_hours 49 = .ok (.aload_n 0, 1) := by decide +kernel
theorem dX8_hours_50 : decode cX8_hours 50 = .ok (.getfield 12, 3) := by decide +kernel
theorem dX8_hours_53 : decode cX8_hours 53 = .ok (.invokevirtual 212, 3) := by decide +kernel
theorem dX8_hours_56 : decode cX8_hours 56 = .ok (.iconst 0, 1) := by decide +kernel
theorem dX8_hours_57 : decode cX8_hours 57 = .ok (.istore 9, 2) := by decide +kernel
theorem dX8_hours_59 : decode cX8_hours 59 = .ok (.iload 9, 2) := by decide +kernel
theorem dX8_hours_61 : decode cX8_hours 61 = .ok (.bipush 24, 2) := by decide +kernel
theorem dX8_hours_63 : decode cX8_hours 63 = .ok (.if_icmp .ge 87, 3) := by decide +kernel
theorem dX8_hours_66 : decode cX8_hours 66 = .ok (.aload_n 0, 1) := by decide +kernel
theorem dX8_hours_67 : decode cX8_hours 67 = .ok (.getfield 19, 3) := by decide +kernel
theorem dX8_hours_70 : decode cX8_hours 70 = .ok (.iload 9, 2) := by decide +kernel
theorem dX8_hours_72 : decode cX8_hours 72 = .ok (.putfield 70, 3) := by decide +kernel
theorem dX8_hours_75 : decode cX8_hours 75 = .ok (.iload 4, 2) := by decide +kernel
theorem dX8_hours_77 : decode cX8_hours 77 = .ok (.ifCond .ne 15, 3) := by decide +kernel
theorem dX8_hours_80 : decode cX8_hours 80 = .ok (.iload 9, 2) := by decide +kernel
theorem dX8_hours_82 : decode cX8_hours 82 = .ok (.ifCond .eq 10, 3) := by decide +kernel
theorem dX8_hours_85 : decode cX8_hours 85 = .ok (.iload 9, 2) := by decide +kernel
theorem dX8_hours_87 : decode cX8_hours 87 = .ok (.bipush 12, 2) := by decide +kernel
theorem dX8_hours_89 : decode cX8_hours 89 = .ok (.if_icmp .ne 18, 3) := by decide +kernel
theorem dX8_hours_92 : decode cX8_hours 92 = .ok (.aload_n 0, 1) := by decide +kernel
theorem dX8_hours_93 : decode cX8_hours 93 = .ok (.aload_n 0, 1) := by decide +kernel
theorem dX8_hours_94 : decode cX8_hours 94 = .ok (.getfield 19, 3) := by decide +kernel
theorem dX8_hours_97 : decode cX8_hours 97 = .ok (.iconst 1, 1) := by decide +kernel
theorem dX8_hours_98 : decode cX8_hours 98 = .ok (.iload_n 1, 1) := by decide +kernel
theorem dX8_hours_99 : decode cX8_hours 99 = .ok (.ishl, 1) := by decide +kernel
theorem dX8_hours_100 : decode cX8_hours 100 = .ok (.iconst 0, 1) := by decide +kernel
theorem dX8_hours_101 : decode cX8_hours 101 = .ok (.iconst 0, 1) := by decide +kernel
theorem dX8_hours_102 : decode cX8_hours 102 = .ok (.invokevirtual 177, 3) := by decide +kernel
theorem dX8_hours_105 : decode cX8_hours 105 = .ok (.istore 8, 2) := by decide +kernel
theorem dX8_hours_107 : decode cX8_hours 107 = .ok (.iload 8, 2) := by decide +kernel
theorem dX8_hours_109 : decode cX8_hours 109 = .ok (.ifCond .ge 6, 3) := by decide +kernel
theorem dX8_hours_112 : decode cX8_hours 112 = .ok (.goto 32, 3) := by decide +kernel
theorem dX8_hours_115 : decode cX8_hours 115 = .ok (.iload 5, 2) := by decide +kernel
theorem dX8_hours_117 : decode cX8_hours 117 = .ok (.iconst 1, 1) := by decide +kernel
theorem dX8_hours_118 : decode cX8_hours 118 = .ok (.iload 9, 2) := by decide +kernel
theorem dX8_hours_120 : decode cX8_hours 120 = .ok (.ishl, 1) := by decide +kernel
theorem dX8_hours_121 : decode cX8_hours 121 = .ok (.ior, 1) := by decide +kernel
theorem dX8_hours_122 : decode cX8_hours 122 = .ok (.istore 5, 2) := by decide +kernel
theorem dX8_hours_124 : decode cX8_hours 124 = .ok (.iload 6, 2) := by decide +kernel
theorem dX8_hours_126 : decode cX8_hours 126 = .ok (.ifCond .lt 10, 3) := by decide +kernel
theorem dX8_hours_129 : decode cX8_hours 129 = .ok (.iload 8, 2) := by decide +kernel
theorem dX8_hours_131 : decode cX8_hours 131 = .ok (.iload 7, 2) := by decide +kernel
theorem dX8_hours_133 : decode cX8_hours 133 = .ok (.if_icmp .ge 11, 3) := by decide +kernel
theorem dX8_hours_136 : decode cX8_hours 136 = .ok (.iload 9, 2) := by decide +kernel
theorem dX8_hours_138 : decode cX8_hours 138 = .ok (.istore 6, 2) := by decide +kernel
theorem dX8_hours_140 : decode cX8_hours 140 = .ok (.iload 8, 2) := by decide +kernel
theorem dX8_hours_142 : decode cX8_hours 142 = .ok (.istore 7, 2) := by decide +kernel
theorem dX8_hours_144 : decode cX8_hours 144 = .ok (.iinc 9 1, 3) := by decide +kernel
theorem dX8_hours_147 : decode cX8_hours 147 = .ok (.goto (-88), 3) := by decide +kernel
theorem dX8_hours_150 : decode cX8_hours 150 = .ok (.iload_n 2, 1) := by decide +kernel
theorem dX8_hours_151 : decode cX8_hours 151 = .ok (.ifCond .ne 8, 3) := by decide +kernel
theorem dX8_hours_154 : decode cX8_hours 154 = .ok (.iload 5, 2) := by decide +kernel
theorem dX8_hours_156 : decode cX8_hours 156 = .ok (.goto 5, 3) := by decide +kernel
theorem dX8_hours_159 : decode cX8_hours 159 = .ok (.iload 6, 2) := by decide +kernel
theorem dX8_hours_161 : decode cX8_hours 161 = .ok (.ireturn, 1) := by decide +kernel
theorem dX8_laws_0 : decode cX8_laws 0 = .ok (.aload_n 0, 1) := by decide +kernel
theorem dX8_laws_1 : decode cX8_laws 1 = .ok (.iload_n 1, 1) := by decide +kernel
theorem dX8_laws_2 : decode cX8_laws 2 = .ok (.invokevirtual 181, 3) := by decide +kernel
theorem dX8_laws_5 : decode cX8_laws 5 = .ok (.ifCond .ne 6, 3) := by decide +kernel
theorem dX8_laws_8 : decode cX8_laws 8 = .ok (.bipush (-5), 2) := by decide +kernel
theorem dX8_laws_10 : decode cX8_laws 10 = .ok (.ireturn, 1) := by decide +kernel
theorem dX8_laws_11 : decode cX8_laws 11 = .ok (.iconst 0, 1) := by decide +kernel
theorem dX8_laws_12 : decode cX8_laws 12 = .ok (.istore_n 2, 1) := by decide +kernel
theorem dX8_laws_13 : decode cX8_laws 13 = .ok (.aload_n 0, 1) := by decide +kernel
theorem dX8_laws_14 : decode cX8_laws 14 = .ok (.getfield 19, 3) := by decide +kernel
theorem dX8_laws_17 : decode cX8_laws 17 = .ok (.aload_n 0, 1) := by decide +kernel
theorem dX8_laws_18 : decode cX8_laws 18 = .ok (.getfield 12, 3) := by decide +kernel
theorem dX8_laws_21 : decode cX8_laws 21 = .ok (.invokevirtual 212, 3) := by decide +kernel
theorem dX8_laws_24 : decode cX8_laws 24 = .ok (.iconst 0, 1) := by decide +kernel
theorem dX8_laws_25 : decode cX8_laws 25 = .ok (.istore_n 3, 1) := by decide +kernel
theorem dX8_laws_26 : decode cX8_laws 26 = .ok (.iload_n 3, 1) := by decide +kernel
theorem dX8_laws_27 : decode cX8_laws 27 = .ok (.aload_n 0, 1) := by decide +kernel
theorem dX8_laws_28 : decode cX8_laws 28 = .ok (.getfield 39, 3) := by decide +kernel
theorem dX8_laws_31 : decode cX8_laws 31 = .ok (.getfield 116, 3) := by decide +kernel
theorem dX8_laws_34 : decode cX8_laws 34 = .ok (.if_icmp .ge 39, 3) := by decide +kernel
theorem dX8_laws_37 : decode cX8_laws 37 = .ok (.aload_n 0, 1) := by decide +kernel
theorem dX8_laws_38 : decode cX8_laws 38 = .ok (.getfield 19, 3) := by decide +kernel
theorem dX8_laws_41 : decode cX8_laws 41 = .ok (.iload_n 3, 1) := by decide +kernel
theorem dX8_laws_42 : decode cX8_laws 42 = .ok (.putfield 119, 3) := by decide +kernel
theorem dX8_laws_45 : decode cX8_laws 45 = .ok (.aload_n 0, 1) := by decide +kernel
theorem dX8_laws_46 : decode cX8_laws 46 = .ok (.aload_n 0, 1) := by decide +kernel
theorem dX8_laws_47 : decode cX8_laws 47 = .ok (.getfield 19, 3) := by decide +kernel
theorem dX8_laws_50 : decode cX8_laws 50 = .ok (.iconst 1, 1) := by decide +kernel
theorem dX8_laws_51 : decode cX8_laws 51 = .ok (.iload_n 1, 1) := by decide +kernel
theorem dX8_laws_52 : decode cX8_laws 52 = .ok (.ishl, 1) := by decide +kernel
theorem dX8_laws_53 : decode cX8_laws 53 = .ok (.iconst 0, 1) := by decide +kernel
theorem dX8_laws_54 : decode cX8_laws 54 = .ok (.iconst 0, 1) := by decide +kernel
theorem dX8_laws_55 : decode cX8_laws 55 = .ok (.invokevirtual 177, 3) := by decide +kernel
theorem dX8_laws_58 : decode cX8_laws 58 = .ok (.ifCond .lt 9, 3) := by decide +kernel
theorem dX8_laws_61 : decode cX8_laws 61 = .ok (.iload_n 2, 1) := by decide +kernel
theorem dX8_laws_62 : decode cX8_laws 62 = .ok (.iconst 1, 1) := by decide +kernel
theorem dX8_laws_63 : decode cX8_laws 63 = .ok (.iload_n 3, 1) := by decide +kernel
theorem dX8_laws_64 : decode cX8_laws 64 = .ok (.ishl, 1) := by decide +kernel
theorem dX8_laws_65 : decode cX8_laws 65 = .ok (.ior, 1) := by decide +kernel
theorem dX8_laws_66 : decode cX8_laws 66 = .ok (.istore_n 2, 1) := by decide +kernel
theorem dX8_laws_67 : decode cX8_laws 67 = .ok (.iinc 3 1, 3) := by decide +kernel
theorem dX8_laws_70 : decode cX8_laws 70 = .ok (.goto (-44), 3) := by decide +kernel
theorem dX8_laws_73 : decode cX8_laws 73 = .ok (.iload_n 2, 1) := by decide +kernel
theorem dX8_laws_74 : decode cX8_laws 74 = .ok (.ireturn, 1) := by decide +kernel
theorem dX8_judge_0 : decode cX8_judge 0 = .ok (.iload_n 1, 1) := by decide +kernel
theorem dX8_judge_1 : decode cX8_judge 1 = .ok (.invokestatic 243, 3) := by decide +kernel
theorem dX8_judge_4 : decode cX8_judge 4 = .ok (.ifCond .ne 6, 3) := by decide +kernel
theorem dX8_judge_7 : decode cX8_judge 7 = .ok (.bipush (-2), 2) := by decide +kernel
theorem dX8_judge_9 : decode cX8_judge 9 = .ok (.ireturn, 1) := by decide +kernel
theorem dX8_judge_10 : decode cX8_judge 10 = .ok (.aload_n 0, 1) := by decide +kernel
theorem dX8_judge_11 : decode cX8_judge 11 = .ok (.getfield 66, 3) := by decide +kernel
theorem dX8_judge_14 : decode cX8_judge 14 = .ok (.iload_n 1, 1) := by decide +kernel
theorem dX8_judge_15 : decode cX8_judge 15 = .ok (.aaload, 1) := by decide +kernel
theorem dX8_judge_16 : decode cX8_judge 16 = .ok (.invokevirtual 246, 3) := by decide +kernel
theorem dX8_judge_19 : decode cX8_judge 19 = .ok (.ifCond .eq 8, 3) := by decide +kernel
theorem dX8_judge_22 : decode cX8_judge 22 = .ok (.bipush (-11), 2) := by decide +kernel
theorem dX8_judge_24 : decode cX8_judge 24 = .ok (.goto 13, 3) := by decide +kernel
theorem dX8_judge_27 : decode cX8_judge 27 = .ok (.aload_n 0, 1) := by decide +kernel
theorem dX8_judge_28 : decode cX8_judge 28 = .ok (.aload_n 0, 1) := by decide +kernel
theorem dX8_judge_29 : decode cX8_judge 29 = .ok (.getfield 66, 3) := by decide +kernel
theorem dX8_judge_32 : decode cX8_judge 32 = .ok (.iload_n 1, 1) := by decide +kernel
theorem dX8_judge_33 : decode cX8_judge 33 = .ok (.aaload, 1) := by decide +kernel
theorem dX8_judge_34 : decode cX8_judge 34 = .ok (.invokevirtual 250, 3) := by decide +kernel
theorem dX8_judge_37 : decode cX8_judge 37 = .ok (.ireturn, 1) := by decide +kernel
theorem dX8_walk_0 : decode cX8_walk 0 = .ok (.iload_n 1, 1) := by decide +kernel
theorem dX8_walk_1 : decode cX8_walk 1 = .ok (.invokestatic 243, 3) := by decide +kernel
theorem dX8_walk_4 : decode cX8_walk 4 = .ok (.ifCond .ne 6, 3) := by decide +kernel
theorem dX8_walk_7 : decode cX8_walk 7 = .ok (.bipush (-2), 2) := by decide +kernel
theorem dX8_walk_9 : decode cX8_walk 9 = .ok (.ireturn, 1) := by decide +kernel
theorem dX8_walk_10 : decode cX8_walk 10 = .ok (.aload_n 0, 1) := by decide +kernel
theorem dX8_walk_11 : decode cX8_walk 11 = .ok (.getfield 66, 3) := by decide +kernel
theorem dX8_walk_14 : decode cX8_walk 14 = .ok (.iload_n 1, 1) := by decide +kernel
theorem dX8_walk_15 : decode cX8_walk 15 = .ok (.aaload, 1) := by decide +kernel
theorem dX8_walk_16 : decode cX8_walk 16 = .ok (.invokevirtual 246, 3) := by decide +kernel
theorem dX8_walk_19 : decode cX8_walk 19 = .ok (.ifCond .eq 6, 3) := by decide +kernel
theorem dX8_walk_22 : decode cX8_walk 22 = .ok (.bipush (-11), 2) := by decide +kernel
theorem dX8_walk_24 : decode cX8_walk 24 = .ok (.ireturn, 1) := by decide +kernel
theorem dX8_walk_25 : decode cX8_walk 25 = .ok (.iload_n 2, 1) := by decide +kernel
theorem dX8_walk_26 : decode cX8_walk 26 = .ok (.ifCond .lt 8, 3) := by decide +kernel
theorem dX8_walk_29 : decode cX8_walk 29 = .ok (.iload_n 2, 1) := by decide +kernel
theorem dX8_walk_30 : decode cX8_walk 30 = .ok (.iconst 1, 1) := by decide +kernel
theorem dX8_walk_31 : decode cX8_walk 31 = .ok (.if_icmp .le 6, 3) := by decide +kernel
theorem dX8_walk_34 : decode cX8_walk 34 = .ok (.bipush (-7), 2) := by decide +kernel
theorem dX8_walk_36 : decode cX8_walk 36 = .ok (.ireturn, 1) := by decide +kernel
theorem dX8_walk_37 : decode cX8_walk 37 = .ok (.aload_n 0, 1) := by decide +kernel
theorem dX8_walk_38 : decode cX8_walk 38 = .ok (.aload_n 0, 1) := by decide +kernel
theorem dX8_walk_39 : decode cX8_walk 39 = .ok (.getfield 66, 3) := by decide +kernel
theorem dX8_walk_42 : decode cX8_walk 42 = .ok (.iload_n 1, 1) := by decide +kernel
theorem dX8_walk_43 : decode cX8_walk 43 = .ok (.aaload, 1) := by decide +kernel
theorem dX8_walk_44 : decode cX8_walk 44 = .ok (.invokevirtual 250, 3) := by decide +kernel
theorem dX8_walk_47 : decode cX8_walk 47 = .ok (.pop, 1) := by decide +kernel
theorem dX8_walk_48 : decode cX8_walk 48 = .ok (.iload_n 2, 1) := by decide +kernel
theorem dX8_walk_49 : decode cX8_walk 49 = .ok (.ifCond .ne 13, 3) := by decide +kernel
theorem dX8_walk_52 : decode cX8_walk 52 = .ok (.aload_n 0, 1) := by decide +kernel
theorem dX8_walk_53 : decode cX8_walk 53 = .ok (.getfield 60, 3) := by decide +kernel
theorem dX8_walk_56 : decode cX8_walk 56 = .ok (.getfield 254, 3) := by decide +kernel
theorem dX8_walk_59 : decode cX8_walk 59 = .ok (.goto 10, 3) := by decide +kernel
theorem dX8_walk_62 : decode cX8_walk 62 = .ok (.aload_n 0, 1) := by decide +kernel
theorem dX8_walk_63 : decode cX8_walk 63 = .ok (.getfield 60, 3) := by decide +kernel
theorem dX8_walk_66 : decode cX8_walk 66 = .ok (.invokevirtual 256, 3) := by decide +kernel
theorem dX8_walk_69 : decode cX8_walk 69 = .ok (.ireturn, 1) := by decide +kernel
theorem dX8_show_0 : decode cX8_show 0 = .ok (.aload_n 0, 1) := by decide +kernel
theorem dX8_show_1 : decode cX8_show 1 = .ok (.iload_n 1, 1) := by decide +kernel
theorem dX8_show_2 : decode cX8_show 2 = .ok (.invokevirtual 181, 3) := by decide +kernel
theorem dX8_show_5 : decode cX8_show 5 = .ok (.ifCond .ne 6, 3) := by decide +kernel
theorem dX8_show_8 : decode cX8_show 8 = .ok (.bipush (-5), 2) := by decide +kernel
theorem dX8_show_10 : decode cX8_show 10 = .ok (.ireturn, 1) := by decide +kernel
theorem dX8_show_11 : decode cX8_show 11 = .ok (.iload_n 2, 1) := by decide +kernel
theorem dX8_show_12 : decode cX8_show 12 = .ok (.invokestatic 243, 3) := by decide +kernel
theorem dX8_show_15 : decode cX8_show 15 = .ok (.ifCond .ne 6, 3) := by decide +kernel
theorem dX8_show_18 : decode cX8_show 18 = .ok (.bipush (-2), 2) := by decide +kernel
theorem dX8_show_20 : decode cX8_show 20 = .ok (.ireturn, 1) := by decide +kernel
theorem dX8_show_21 : decode cX8_show 21 = .ok (.aload_n 0, 1) := by decide +kernel
theorem dX8_show_22 : decode cX8_show 22 = .ok (.aload_n 0, 1) := by decide +kernel
theorem dX8_show_23 : decode cX8_show 23 = .ok (.getfield 12, 3) := by decide +kernel
theorem dX8_show_26 : decode cX8_show 26 = .ok (.iconst 1, 1) := by decide +kernel
theorem dX8_show_27 : decode cX8_show 27 = .ok (.iload_n 1, 1) := by decide +kernel
theorem dX8_show_28 : decode cX8_show 28 = .ok (.ishl, 1) := by decide +kernel
theorem dX8_show_29 : decode cX8_show 29 = .ok (.iconst 0, 1) := by decide +kernel
theorem dX8_show_30 : decode cX8_show 30 = .ok (.invokevirtual 187, 3) := by decide +kernel
theorem dX8_show_33 : decode cX8_show 33 = .ok (.aload_n 0, 1) := by decide +kernel
theorem dX8_show_34 : decode cX8_show 34 = .ok (.getfield 53, 3) := by decide +kernel
theorem dX8_show_37 : decode cX8_show 37 = .ok (.iconst 1, 1) := by decide +kernel
theorem dX8_show_38 : decode cX8_show 38 = .ok (.iload_n 1, 1) := by decide +kernel
theorem dX8_show_39 : decode cX8_show 39 = .ok (.ishl, 1) := by decide +kernel
theorem dX8_show_40 : decode cX8_show 40 = .ok (.invokevirtual 194, 3) := by decide +kernel
theorem dX8_show_43 : decode cX8_show 43 = .ok (.istore_n 3, 1) := by decide +kernel
theorem dX8_show_44 : decode cX8_show 44 = .ok (.iload_n 3, 1) := by decide +kernel
theorem dX8_show_45 : decode cX8_show 45 = .ok (.ifCond .ge 5, 3) := by decide +kernel
theorem dX8_show_48 : decode cX8_show 48 = .ok (.iconst (-1), 1) := by decide +kernel
theorem dX8_show_49 : decode cX8_show 49 = .ok (.ireturn, 1) := by decide +kernel
theorem dX8_show_50 : decode cX8_show 50 = .ok (.iload_n 3, 1) := by decide +kernel
theorem dX8_show_51 : decode cX8_show 51 = .ok (.invokestatic 219, 3) := by decide +kernel
theorem dX8_show_54 : decode cX8_show 54 = .ok (.istore 4, 2) := by decide +kernel
theorem dX8_show_56 : decode cX8_show 56 = .ok (.aload_n 0, 1) := by decide +kernel
theorem dX8_show_57 : decode cX8_show 57 = .ok (.getfield 66, 3) := by decide +kernel
theorem dX8_show_60 : decode cX8_show 60 = .ok (.iload_n 2, 1) := by decide +kernel
theorem dX8_show_61 : decode cX8_show 61 = .ok (.aaload, 1) := by decide +kernel
theorem dX8_show_62 : decode cX8_show 62 = .ok (.iconst 2, 1) := by decide +kernel
theorem dX8_show_63 : decode cX8_show 63 = .ok (.iload 4, 2) := by decide +kernel
theorem dX8_show_65 : decode cX8_show 65 = .ok (.invokevirtual 259, 3) := by decide +kernel
theorem dX8_show_68 : decode cX8_show 68 = .ok (.iconst 0, 1) := by decide +kernel
theorem dX8_show_69 : decode cX8_show 69 = .ok (.istore 5, 2) := by decide +kernel
theorem dX8_show_71 : decode cX8_show 71 = .ok (.iload 5, 2) := by decide +kernel
theorem dX8_show_73 : decode cX8_show 73 = .ok (.iload 4, 2) := by decide +kernel
theorem dX8_show_75 : decode cX8_show 75 = .ok (.if_icmp .ge 30, 3) := by decide +kernel
theorem dX8_show_78 : decode cX8_show 78 = .ok (.aload_n 0, 1) := by decide +kernel
theorem dX8_show_79 : decode cX8_show 79 = .ok (.getfield 66, 3) := by decide +kernel
theorem dX8_show_82 : decode cX8_show 82 = .ok (.iload_n 2, 1) := by decide +kernel
theorem dX8_show_83 : decode cX8_show 83 = .ok (.aaload, 1) := by decide +kernel
theorem dX8_show_84 : decode cX8_show 84 = .ok (.iload 5, 2) := by decide +kernel
theorem dX8_show_86 : decode cX8_show 86 = .ok (.aload_n 0, 1) := by decide +kernel
theorem dX8_show_87 : decode cX8_show 87 = .ok (.getfield 53, 3) := by decide +kernel
theorem dX8_show_90 : decode cX8_show 90 = .ok (.iload_n 3, 1) := by decide +kernel
theorem dX8_show_91 : decode cX8_show 91 = .ok (.iload 5, 2) := by decide +kernel
theorem dX8_show_93 : decode cX8_show 93 = .ok (.invokevirtual 263, 3) := by decide +kernel
theorem dX8_show_96 : decode cX8_show 96 = .ok (.invokevirtual 266, 3) := by decide +kernel
theorem dX8_show_99 : decode cX8_show 99 = .ok (.iinc 5 1, 3) := by decide +kernel
theorem dX8_show_102 : decode cX8_show 102 = .ok (.goto (-31), 3) := by decide +kernel
theorem dX8_show_105 : decode cX8_show 105 = .ok (.iload 4, 2) := by decide +kernel
theorem dX8_show_107 : decode cX8_show 107 = .ok (.ireturn, 1) := by decide +kernel
theorem dX8_drawn_0 : decode cX8_drawn 0 = .ok (.iload_n 1, 1) := by decide +kernel
theorem dX8_drawn_1 : decode cX8_drawn 1 = .ok (.ifCond .lt 19, 3) := by decide +kernel
theorem dX8_drawn_4 : decode cX8_drawn 4 = .ok (.iload_n 1, 1) := by decide +kernel
theorem dX8_drawn_5 : decode cX8_drawn 5 = .ok (.ldc_w 268, 3) := by decide +kernel
theorem dX8_drawn_8 : decode cX8_drawn 8 = .ok (.if_icmp .gt 12, 3) := by decide +kernel
theorem dX8_drawn_11 : decode cX8_drawn 11 = .ok (.iload_n 2, 1) := by decide +kernel
theorem dX8_drawn_12 : decode cX8_drawn 12 = .ok (.ifCond .lt 8, 3) := by decide +kernel
theorem dX8_drawn_15 : decode cX8_drawn 15 = .ok (.iload_n 2, 1) := by decide +kernel
theorem dX8_drawn_16 : decode cX8_drawn 16 = .ok (.iconst 2, 1) := by decide +kernel
theorem dX8_drawn_17 : decode cX8_drawn 17 = .ok (.if_icmp .le 6, 3) := by decide +kernel
theorem dX8_drawn_20 : decode cX8_drawn 20 = .ok (.bipush (-2), 2) := by decide +kernel
theorem dX8_drawn_22 : decode cX8_drawn 22 = .ok (.ireturn, 1) := by decide +kernel
theorem dX8_drawn_23 : decode cX8_drawn 23 = .ok (.aload_n 0, 1) := by decide +kernel
theorem dX8_drawn_24 : decode cX8_drawn 24 = .ok (.getfield 46, 3) := by decide +kernel
theorem dX8_drawn_27 : decode cX8_drawn 27 = .ok (.aload_n 0, 1) := by decide +kernel
theorem dX8_drawn_28 : decode cX8_drawn 28 = .ok (.getfield 12, 3) := by decide +kernel
theorem dX8_drawn_31 : decode cX8_drawn 31 = .ok (.aload_n 0, 1) := by decide +kernel
theorem dX8_drawn_32 : decode cX8_drawn 32 = .ok (.getfield 25, 3) := by decide +kernel
theorem dX8_drawn_35 : decode cX8_drawn 35 = .ok (.aload_n 0, 1) := by decide +kernel
theorem dX8_drawn_36 : decode cX8_drawn 36 = .ok (.getfield 39, 3) := by decide +kernel
theorem dX8_drawn_39 : decode cX8_drawn 39 = .ok (.invokevirtual 163, 3) := by decide +kernel
theorem dX8_drawn_42 : decode cX8_drawn 42 = .ok (.aload_n 0, 1) := by decide +kernel
theorem dX8_drawn_43 : decode cX8_drawn 43 = .ok (.iload_n 1, 1) := by decide +kernel
theorem dX8_drawn_44 : decode cX8_drawn 44 = .ok (.invokevirtual 269, 3) := by decide +kernel
theorem dX8_drawn_47 : decode cX8_drawn 47 = .ok (.iload_n 2, 1) := by decide +kernel
theorem dX8_drawn_48 : decode cX8_drawn 48 = .ok (.ifCond .ne 13, 3) := by decide +kernel
theorem dX8_drawn_51 : decode cX8_drawn 51 = .ok (.aload_n 0, 1) := by decide +kernel
theorem dX8_drawn_52 : decode cX8_drawn 52 = .ok (.getfield 60, 3) := by decide +kernel
theorem dX8_drawn_55 : decode cX8_drawn 55 = .ok (.getfield 254, 3) := by decide +kernel
theorem dX8_drawn_58 : decode cX8_drawn 58 = .ok (.goto 25, 3) := by decide +kernel
theorem dX8_drawn_61 : decode cX8_drawn 61 = .ok (.iload_n 2, 1) := by decide +kernel
theorem dX8_drawn_62 : decode cX8_drawn 62 = .ok (.iconst 1, 1) := by decide +kernel
theorem dX8_drawn_63 : decode cX8_drawn 63 = .ok (.if_icmp .ne 13, 3) := by decide +kernel
theorem dX8_drawn_66 : decode cX8_drawn 66 = .ok (.aload_n 0, 1) := by decide +kernel
theorem dX8_drawn_67 : decode cX8_drawn 67 = .ok (.getfield 60, 3) := by decide +kernel
theorem dX8_drawn_70 : decode cX8_drawn 70 = .ok (.invokevirtual 256, 3) := by decide +kernel
theorem dX8_drawn_73 : decode cX8_drawn 73 = .ok (.goto 10, 3) := by decide +kernel
theorem dX8_drawn_76 : decode cX8_drawn 76 = .ok (.aload_n 0, 1) := by decide +kernel
theorem dX8_drawn_77 : decode cX8_drawn 77 = .ok (.getfield 60, 3) := by decide +kernel
theorem dX8_drawn_80 : decode cX8_drawn 80 = .ok (.getfield 272, 3) := by decide +kernel
theorem dX8_drawn_83 : decode cX8_drawn 83 = .ok (.ireturn, 1) := by decide +kernel
theorem dX8_odds_0 : decode cX8_odds 0 = .ok (.iload_n 1, 1) := by decide +kernel
theorem dX8_odds_1 : decode cX8_odds 1 = .ok (.ifCond .lt 21, 3) := by decide +kernel
theorem dX8_odds_4 : decode cX8_odds 4 = .ok (.iload_n 1, 1) := by decide +kernel
theorem dX8_odds_5 : decode cX8_odds 5 = .ok (.ldc_w 268, 3) := by decide +kernel
theorem dX8_odds_8 : decode cX8_odds 8 = .ok (.if_icmp .gt 14, 3) := by decide +kernel
theorem dX8_odds_11 : decode cX8_odds 11 = .ok (.iload_n 2, 1) := by decide +kernel
theorem dX8_odds_12 : decode cX8_odds 12 = .ok (.iconst 1, 1) := by decide +kernel
theorem dX8_odds_13 : decode cX8_odds 13 = .ok (.if_icmp .lt 9, 3) := by decide +kernel
theorem dX8_odds_16 : decode cX8_odds 16 = .ok (.iload_n 2, 1) := by decide +kernel
theorem dX8_odds_17 : decode cX8_odds 17 = .ok (.bipush 50, 2) := by decide +kernel
theorem dX8_odds_19 : decode cX8_odds 19 = .ok (.if_icmp .le 7, 3) := by decide +kernel
theorem dX8_odds_22 : decode cX8_odds 22 = .ok (.ldc2_w 273, 3) := by decide +kernel
theorem dX8_odds_25 : decode cX8_odds 25 = .ok (.lreturn, 1) := by decide +kernel
theorem dX8_odds_26 : decode cX8_odds 26 = .ok (.iload_n 3, 1) := by decide +kernel
theorem dX8_odds_27 : decode cX8_odds 27 = .ok (.ifCond .lt 19, 3) := by decide +kernel
theorem dX8_odds_30 : decode cX8_odds 30 = .ok (.iload_n 3, 1) := by decide +kernel
theorem dX8_odds_31 : decode cX8_odds 31 = .ok (.iconst 1, 1) := by decide +kernel
theorem dX8_odds_32 : decode cX8_odds 32 = .ok (.if_icmp .gt 14, 3) := by decide +kernel
theorem dX8_odds_35 : decode cX8_odds 35 = .ok (.iload 4, 2) := by decide +kernel
theorem dX8_odds_37 : decode cX8_odds 37 = .ok (.ifCond .lt 9, 3) := by decide +kernel
theorem dX8_odds_40 : decode cX8_odds 40 = .ok (.iload 4, 2) := by decide +kernel
theorem dX8_odds_42 : decode cX8_odds 42 = .ok (.iconst 1, 1) := by decide +kernel
theorem dX8_odds_43 : decode cX8_odds 43 = .ok (.if_icmp .le 7, 3) := by decide +kernel
theorem dX8_odds_46 : decode cX8_odds 46 = .ok (.ldc2_w 273, 3) := by decide +kernel
theorem dX8_odds_49 : decode cX8_odds 49 = .ok (.lreturn, 1) := by decide +kernel
theorem dX8_odds_50 : decode cX8_odds 50 = .ok (.aload_n 0, 1) := by decide +kernel
theorem dX8_odds_51 : decode cX8_odds 51 = .ok (.getfield 46, 3) := by decide +kernel
theorem dX8_odds_54 : decode cX8_odds 54 = .ok (.aload_n 0, 1) := by decide +kernel
theorem dX8_odds_55 : decode cX8_odds 55 = .ok (.getfield 12, 3) := by decide +kernel
theorem dX8_odds_58 : decode cX8_odds 58 = .ok (.aload_n 0, 1) := by decide +kernel
theorem dX8_odds_59 : decode cX8_odds 59 = .ok (.getfield 25, 3) := by decide +kernel
theorem dX8_odds_62 : decode cX8_odds 62 = .ok (.aload_n 0, 1) := by decide +kernel
theorem dX8_odds_63 : decode cX8_odds 63 = .ok (.getfield 39, 3) := by decide +kernel
theorem dX8_odds_66 : decode cX8_odds 66 = .ok (.invokevirtual 163, 3) := by decide +kernel
theorem dX8_odds_69 : decode cX8_odds 69 = .ok (.iconst 0, 1) := by decide +kernel
theorem dX8_odds_70 : decode cX8_odds 70 = .ok (.istore 5, 2) := by decide +kernel
theorem dX8_odds_72 : decode cX8_odds 72 = .ok (.iconst 0, 1) := by decide +kernel
theorem dX8_odds_73 : decode cX8_odds 73 = .ok (.istore 6, 2) := by decide +kernel
theorem dX8_odds_75 : decode cX8_odds 75 = .ok (.iload 6, 2) := by decide +kernel
theorem dX8_odds_77 : decode cX8_odds 77 = .ok (.iload_n 2, 1) := by decide +kernel
theorem dX8_odds_78 : decode cX8_odds 78 = .ok (.if_icmp .ge 67, 3) := by decide +kernel
theorem dX8_odds_81 : decode cX8_odds 81 = .ok (.aload_n 0, 1) := by decide +kernel
theorem dX8_odds_82 : decode cX8_odds 82 = .ok (.iload_n 1, 1) := by decide +kernel
theorem dX8_odds_83 : decode cX8_odds 83 = .ok (.iload 6, 2) := by decide +kernel
theorem dX8_odds_85 : decode cX8_odds 85 = .ok (.iadd, 1) := by decide +kernel
theorem dX8_odds_86 : decode cX8_odds 86 = .ok (.invokevirtual 269, 3) := by decide +kernel
theorem dX8_odds_89 : decode cX8_odds 89 = .ok (.iload_n 3, 1) := by decide +kernel
theorem dX8_odds_90 : decode cX8_odds 90 = .ok (.iconst 1, 1) := by decide +kernel
theorem dX8_odds_91 : decode cX8_odds 91 = .ok (.if_icmp .ne 18, 3) := by decide +kernel
theorem dX8_odds_94 : decode cX8_odds 94 = .ok (.iload 5, 2) := by decide +kernel
theorem dX8_odds_96 : decode cX8_odds 96 = .ok (.aload_n 0, 1) := by decide +kernel
theorem dX8_odds_97 : decode cX8_odds 97 = .ok (.getfield 60, 3) := by decide +kernel
theorem dX8_odds_100 : decode cX8_odds 100 = .ok (.getfield 272, 3) := by decide +kernel
theorem dX8_odds_103 : decode cX8_odds 103 = .ok (.iadd, 1) := by decide +kernel
theorem dX8_odds_104 : decode cX8_odds 104 = .ok (.istore 5, 2) := by decide +kernel
theorem dX8_odds_106 : decode cX8_odds 106 = .ok (.goto 33, 3) := by decide +kernel
theorem dX8_odds_109 : decode cX8_odds 109 = .ok (.aload_n 0, 1) := by decide +kernel
theorem dX8_odds_110 : decode cX8_odds 110 = .ok (.getfield 60, 3) := by decide +kernel
theorem dX8_odds_113 : decode cX8_odds 113 = .ok (.getfield 272, 3) := by decide +kernel
theorem dX8_odds_116 : decode cX8_odds 116 = .ok (.ifCond .le 23, 3) := by decide +kernel
theorem dX8_odds_119 : decode cX8_odds 119 = .ok (.aload_n 0, 1) := by decide +kernel
theorem dX8_odds_120 : decode cX8_odds 120 = .ok (.getfield 60, 3) := by decide +kernel
theorem dX8_odds_123 : decode cX8_odds 123 = .ok (.invokevirtual 256, 3) := by decide +kernel
theorem dX8_odds_126 : decode cX8_odds 126 = .ok (.aload_n 0, 1) := by decide +kernel
theorem dX8_odds_127 : decode cX8_odds 127 = .ok (.getfield 12, 3) := by decide +kernel
theorem dX8_odds_130 : decode cX8_odds 130 = .ok (.getfield 105, 3) := by decide +kernel
theorem dX8_odds_133 : decode cX8_odds 133 = .ok (.if_icmp .ne 6, 3) := by decide +kernel
theorem dX8_odds_136 : decode cX8_odds 136 = .ok (.iinc 5 1, 3) := by decide +kernel
theorem dX8_odds_139 : decode cX8_odds 139 = .ok (.iinc 6 1, 3) := by decide +kernel
theorem dX8_odds_142 : decode cX8_odds 142 = .ok (.goto (-67), 3) := by decide +kernel
theorem dX8_odds_145 : decode cX8_odds 145 = .ok (.iload 5, 2) := by decide +kernel
theorem dX8_odds_147 : decode cX8_odds 147 = .ok (.iload_n 2, 1) := by decide +kernel
theorem dX8_odds_148 : decode cX8_odds 148 = .ok (.invokestatic 275, 3) := by decide +kernel
theorem dX8_odds_151 : decode cX8_odds 151 = .ok (.istore 6, 2) := by decide +kernel
theorem dX8_odds_153 : decode cX8_odds 153 = .ok (.iload 4, 2) := by decide +kernel
theorem dX8_odds_155 : decode cX8_odds 155 = .ok (.ifCond .ne 8, 3) := by decide +kernel
theorem dX8_odds_158 : decode cX8_odds 158 = .ok (.iload 5, 2) := by decide +kernel
theorem dX8_odds_160 : decode cX8_odds 160 = .ok (.goto 4, 3) := by decide +kernel
theorem dX8_odds_163 : decode cX8_odds 163 = .ok (.iload_n 2, 1) := by decide +kernel
theorem dX8_odds_164 : decode cX8_odds 164 = .ok (.iload 6, 2) := by decide +kernel
theorem dX8_odds_166 : decode cX8_odds 166 = .ok (.idiv, 1) := by decide +kernel
theorem dX8_odds_167 : decode cX8_odds 167 = .ok (.i2l, 1) := by decide +kernel
theorem dX8_odds_168 : decode cX8_odds 168 = .ok (.lreturn, 1) := by decide +kernel
theorem dX8_image_0 : decode cX8_image 0 = .ok (.aload_n 0, 1) := by decide +kernel
theorem dX8_image_1 : decode cX8_image 1 = .ok (.getfield 16, 3) := by decide +kernel
theorem dX8_image_4 : decode cX8_image 4 = .ok (.aload_n 0, 1) := by decide +kernel
theorem dX8_image_5 : decode cX8_image 5 = .ok (.getfield 12, 3) := by decide +kernel
theorem dX8_image_8 : decode cX8_image 8 = .ok (.invokevirtual 212, 3) := by decide +kernel
theorem dX8_image_11 : decode cX8_image 11 = .ok (.aload_n 0, 1) := by decide +kernel
theorem dX8_image_12 : decode cX8_image 12 = .ok (.iconst 1, 1) := by decide +kernel
theorem dX8_image_13 : decode cX8_image 13 = .ok (.putfield 132, 3) := by decide +kernel
theorem dX8_image_16 : decode cX8_image 16 = .ok (.aload_n 0, 1) := by decide +kernel
theorem dX8_image_17 : decode cX8_image 17 = .ok (.getfield 16, 3) := by decide +kernel
theorem dX8_image_20 : decode cX8_image 20 = .ok (.getfield 111, 3) := by decide +kernel
theorem dX8_image_23 : decode cX8_image 23 = .ok (.ireturn, 1) := by decide +kernel
theorem dX8_back_0 : decode cX8_back 0 = .ok (.aload_n 0, 1) := by decide +kernel
theorem dX8_back_1 : decode cX8_back 1 = .ok (.getfield 132, 3) := by decide +kernel
theorem dX8_back_4 : decode cX8_back 4 = .ok (.ifCond .ne 6, 3) := by decide +kernel
theorem dX8_back_7 : decode cX8_back 7 = .ok (.bipush (-3), 2) := by decide +kernel
theorem dX8_back_9 : decode cX8_back 9 = .ok (.ireturn, 1) := by decide +kernel
theorem dX8_back_10 : decode cX8_back 10 = .ok (.aload_n 0, 1) := by decide +kernel
theorem dX8_back_11 : decode cX8_back 11 = .ok (.getfield 12, 3) := by decide +kernel
theorem dX8_back_14 : decode cX8_back 14 = .ok (.aload_n 0, 1) := by decide +kernel
theorem dX8_back_15 : decode cX8_back 15 = .ok (.getfield 16, 3) := by decide +kernel
theorem dX8_back_18 : decode cX8_back 18 = .ok (.invokevirtual 212, 3) := by decide +kernel
theorem dX8_back_21 : decode cX8_back 21 = .ok (.aload_n 0, 1) := by decide +kernel
theorem dX8_back_22 : decode cX8_back 22 = .ok (.getfield 12, 3) := by decide +kernel
theorem dX8_back_25 : decode cX8_back 25 = .ok (.getfield 111, 3) := by decide +kernel
theorem dX8_back_28 : decode cX8_back 28 = .ok (.ireturn, 1) := by decide +kernel
theorem dX8_sheet_0 : decode cX8_sheet 0 = .ok (.iload_n 1, 1) := by decide +kernel
theorem dX8_sheet_1 : decode cX8_sheet 1 = .ok (.invokestatic 243, 3) := by decide +kernel
theorem dX8_sheet_4 : decode cX8_sheet 4 = .ok (.ifCond .eq 13, 3) := by decide +kernel
theorem dX8_sheet_7 : decode cX8_sheet 7 = .ok (.iload_n 2, 1) := by decide +kernel
theorem dX8_sheet_8 : decode cX8_sheet 8 = .ok (.iconst (-1), 1) := by decide +kernel
theorem dX8_sheet_9 : decode cX8_sheet 9 = .ok (.if_icmp .lt 8, 3) := by decide +kernel
theorem dX8_sheet_12 : decode cX8_sheet 12 = .ok (.iload_n 2, 1) := by decide +kernel
theorem dX8_sheet_13 : decode cX8_sheet 13 = .ok (.iconst 2, 1) := by decide +kernel
theorem dX8_sheet_14 : decode cX8_sheet 14 = .ok (.if_icmp .le 6, 3) := by decide +kernel
theorem dX8_sheet_17 : decode cX8_sheet 17 = .ok (.bipush (-2), 2) := by decide +kernel
theorem dX8_sheet_19 : decode cX8_sheet 19 = .ok (.ireturn, 1) := by decide +kernel
theorem dX8_sheet_20 : decode cX8_sheet 20 = .ok (.iload_n 2, 1) := by decide +kernel
theorem dX8_sheet_21 : decode cX8_sheet 21 = .ok (.ifCond .lt 12, 3) := by decide +kernel
theorem dX8_sheet_24 : decode cX8_sheet 24 = .ok (.iload_n 3, 1) := by decide +kernel
theorem dX8_sheet_25 : decode cX8_sheet 25 = .ok (.bipush 40, 2) := by decide +kernel
theorem dX8_sheet_27 : decode cX8_sheet 27 = .ok (.if_icmp .le 6, 3) := by decide +kernel
theorem dX8_sheet_30 : decode cX8_sheet 30 = .ok (.bipush (-2), 2) := by decide +kernel
theorem dX8_sheet_32 : decode cX8_sheet 32 = .ok (.ireturn, 1) := by decide +kernel
theorem dX8_sheet_33 : decode cX8_sheet 33 = .ok (.iload_n 2, 1) := by decide +kernel
theorem dX8_sheet_34 : decode cX8_sheet 34 = .ok (.ifCond .lt 10, 3) := by decide +kernel
theorem dX8_sheet_37 : decode cX8_sheet 37 = .ok (.iload_n 3, 1) := by decide +kernel
theorem dX8_sheet_38 : decode cX8_sheet 38 = .ok (.ifCond .ge 6, 3) := by decide +kernel
theorem dX8_sheet_41 : decode cX8_sheet 41 = .ok (.bipush (-14), 2) := by decide +kernel
theorem dX8_sheet_43 : decode cX8_sheet 43 = .ok (.ireturn, 1) := by decide +kernel
theorem dX8_sheet_44 : decode cX8_sheet 44 = .ok (.aload_n 0, 1) := by decide +kernel
theorem dX8_sheet_45 : decode cX8_sheet 45 = .ok (.getfield 66, 3) := by decide +kernel
theorem dX8_sheet_48 : decode cX8_sheet 48 = .ok (.iload_n 1, 1) := by decide +kernel
theorem dX8_sheet_49 : decode cX8_sheet 49 = .ok (.aaload, 1) := by decide +kernel
theorem dX8_sheet_50 : decode cX8_sheet 50 = .ok (.iload_n 2, 1) := by decide +kernel
theorem dX8_sheet_51 : decode cX8_sheet 51 = .ok (.iload_n 2, 1) := by decide +kernel
theorem dX8_sheet_52 : decode cX8_sheet 52 = .ok (.ifCond .ge 7, 3) := by decide +kernel
theorem dX8_sheet_55 : decode cX8_sheet 55 = .ok (.iconst 0, 1) := by decide +kernel
theorem dX8_sheet_56 : decode cX8_sheet 56 = .ok (.goto 4, 3) := by decide +kernel
theorem dX8_sheet_59 : decode cX8_sheet 59 = .ok (.iload_n 3, 1) := by decide +kernel
theorem dX8_sheet_60 : decode cX8_sheet 60 = .ok (.invokevirtual 259, 3) := by decide +kernel
theorem dX8_sheet_63 : decode cX8_sheet 63 = .ok (.iconst 1, 1) := by decide +kernel
theorem dX8_sheet_64 : decode cX8_sheet 64 = .ok (.ireturn, 1) := by decide +kernel
theorem dX8_cell_0 : decode cX8_cell 0 = .ok (.iload_n 1, 1) := by decide +kernel
theorem dX8_cell_1 : decode cX8_cell 1 = .ok (.invokestatic 243, 3) := by decide +kernel
theorem dX8_cell_4 : decode cX8_cell 4 = .ok (.ifCond .ne 6, 3) := by decide +kernel
theorem dX8_cell_7 : decode cX8_cell 7 = .ok (.bipush (-2), 2) := by decide +kernel
theorem dX8_cell_9 : decode cX8_cell 9 = .ok (.ireturn, 1) := by decide +kernel
theorem dX8_cell_10 : decode cX8_cell 10 = .ok (.aload_n 0, 1) := by decide +kernel
theorem dX8_cell_11 : decode cX8_cell 11 = .ok (.getfield 66, 3) := by decide +kernel
theorem dX8_cell_14 : decode cX8_cell 14 = .ok (.iload_n 1, 1) := by decide +kernel
theorem dX8_cell_15 : decode cX8_cell 15 = .ok (.aaload, 1) := by decide +kernel
theorem dX8_cell_16 : decode cX8_cell 16 = .ok (.invokevirtual 246, 3) := by decide +kernel
theorem dX8_cell_19 : decode cX8_cell 19 = .ok (.ifCond .eq 6, 3) := by decide +kernel
theorem dX8_cell_22 : decode cX8_cell 22 = .ok (.bipush (-11), 2) := by decide +kernel
theorem dX8_cell_24 : decode cX8_cell 24 = .ok (.ireturn, 1) := by decide +kernel
theorem dX8_cell_25 : decode cX8_cell 25 = .ok (.iload_n 2, 1) := by decide +kernel
theorem dX8_cell_26 : decode cX8_cell 26 = .ok (.ifCond .lt 16, 3) := by decide +kernel
theorem dX8_cell_29 : decode cX8_cell 29 = .ok (.iload_n 2, 1) := by decide +kernel
theorem dX8_cell_30 : decode cX8_cell 30 = .ok (.aload_n 0, 1) := by decide +kernel
theorem dX8_cell_31 : decode cX8_cell 31 = .ok (.getfield 66, 3) := by decide +kernel
theorem dX8_cell_34 : decode cX8_cell 34 = .ok (.iload_n 1, 1) := by decide +kernel
theorem dX8_cell_35 : decode cX8_cell 35 = .ok (.aaload, 1) := by decide +kernel
theorem dX8_cell_36 : decode cX8_cell 36 = .ok (.getfield 278, 3) := by decide +kernel
theorem dX8_cell_39 : decode cX8_cell 39 = .ok (.if_icmp .lt 6, 3) := by decide +kernel
theorem dX8_cell_42 : decode cX8_cell 42 = .ok (.bipush (-12), 2) := by decide +kernel
theorem dX8_cell_44 : decode cX8_cell 44 = .ok (.ireturn, 1) := by decide +kernel
theorem dX8_cell_45 : decode cX8_cell 45 = .ok (.aload_n 0, 1) := by decide +kernel
theorem dX8_cell_46 : decode cX8_cell 46 = .ok (.getfield 66, 3) := by decide +kernel
theorem dX8_cell_49 : decode cX8_cell 49 = .ok (.iload_n 1, 1) := by decide +kernel
theorem dX8_cell_50 : decode cX8_cell 50 = .ok (.aaload, 1) := by decide +kernel
theorem dX8_cell_51 : decode cX8_cell 51 = .ok (.iload_n 2, 1) := by decide +kernel
theorem dX8_cell_52 : decode cX8_cell 52 = .ok (.iload_n 3, 1) := by decide +kernel
theorem dX8_cell_53 : decode cX8_cell 53 = .ok (.invokevirtual 266, 3) := by decide +kernel
theorem dX8_cell_56 : decode cX8_cell 56 = .ok (.iconst 1, 1) := by decide +kernel
theorem dX8_cell_57 : decode cX8_cell 57 = .ok (.ireturn, 1) := by decide +kernel
theorem dX8_copy_0 : decode cX8_copy 0 = .ok (.iload_n 1, 1) := by decide +kernel
theorem dX8_copy_1 : decode cX8_copy 1 = .ok (.invokestatic 243, 3) := by decide +kernel
theorem dX8_copy_4 : decode cX8_copy 4 = .ok (.ifCond .eq 10, 3) := by decide +kernel
theorem dX8_copy_7 : decode cX8_copy 7 = .ok (.iload_n 3, 1) := by decide +kernel
theorem dX8_copy_8 : decode cX8_copy 8 = .ok (.invokestatic 243, 3) := by decide +kernel
theorem dX8_copy_11 : decode cX8_copy 11 = .ok (.ifCond .ne 6, 3) := by decide +kernel
theorem dX8_copy_14 : decode cX8_copy 14 = .ok (.bipush (-2), 2) := by decide +kernel
theorem dX8_copy_16 : decode cX8_copy 16 = .ok (.ireturn, 1) := by decide +kernel
theorem dX8_copy_17 : decode cX8_copy 17 = .ok (.aload_n 0, 1) := by decide +kernel
theorem dX8_copy_18 : decode cX8_copy 18 = .ok (.getfield 66, 3) := by decide +kernel
theorem dX8_copy_21 : decode cX8_copy 21 = .ok (.iload_n 1, 1) := by decide +kernel
theorem dX8_copy_22 : decode cX8_copy 22 = .ok (.aaload, 1) := by decide +kernel
theorem dX8_copy_23 : decode cX8_copy 23 = .ok (.astore 6, 2) := by decide +kernel
theorem dX8_copy_25 : decode cX8_copy 25 = .ok (.aload_n 0, 1) := by decide +kernel
theorem dX8_copy_26 : decode cX8_copy 26 = .ok (.getfield 66, 3) := by decide +kernel
theorem dX8_copy_29 : decode cX8_copy 29 = .ok (.iload_n 3, 1) := by decide +kernel
theorem dX8_copy_30 : decode cX8_copy 30 = .ok (.aaload, 1) := by decide +kernel
theorem dX8_copy_31 : decode cX8_copy 31 = .ok (.astore 7, 2) := by decide +kernel
theorem dX8_copy_33 : decode cX8_copy 33 = .ok (.aload 6, 2) := by decide +kernel
theorem dX8_copy_35 : decode cX8_copy 35 = .ok (.invokevirtual 246, 3) := by decide +kernel
theorem dX8_copy_38 : decode cX8_copy 38 = .ok (.ifCond .ne 11, 3) := by decide +kernel
theorem dX8_copy_41 : decode cX8_copy 41 = .ok (.aload 7, 2) := by decide +kernel
theorem dX8_copy_43 : decode cX8_copy 43 = .ok (.invokevirtual 246, 3) := by decide +kernel
theorem dX8_copy_46 : decode cX8_copy 46 = .ok (.ifCond .eq 6, 3) := by decide +kernel
theorem dX8_copy_49 : decode cX8_copy 49 = .ok (.bipush (-11), 2) := by decide +kernel
theorem dX8_copy_51 : decode cX8_copy 51 = .ok (.ireturn, 1) := by decide +kernel
theorem dX8_copy_52 : decode cX8_copy 52 = .ok (.aload 6, 2) := by decide +kernel
theorem dX8_copy_54 : decode cX8_copy 54 = .ok (.getfield 279, 3) := by decide +kernel
theorem dX8_copy_57 : decode cX8_copy 57 = .ok (.aload 7, 2) := by decide +kernel
theorem dX8_copy_59 : decode cX8_copy 59 = .ok (.getfield 279, 3) := by decide +kernel
theorem dX8_copy_62 : decode cX8_copy 62 = .ok (.if_icmp .eq 6, 3) := by decide +kernel
theorem dX8_copy_65 : decode cX8_copy 65 = .ok (.bipush (-13), 2) := by decide +kernel
theorem dX8_copy_67 : decode cX8_copy 67 = .ok (.ireturn, 1) := by decide +kernel
theorem dX8_copy_68 : decode cX8_copy 68 = .ok (.aload 6, 2) := by decide +kernel
theorem dX8_copy_70 : decode cX8_copy 70 = .ok (.iload_n 2, 1) := by decide +kernel
theorem dX8_copy_71 : decode cX8_copy 71 = .ok (.iload 5, 2) := by decide +kernel
theorem dX8_copy_73 : decode cX8_copy 73 = .ok (.invokevirtual 282, 3) := by decide +kernel
theorem dX8_copy_76 : decode cX8_copy 76 = .ok (.ifCond .eq 15, 3) := by decide +kernel
theorem dX8_copy_79 : decode cX8_copy 79 = .ok (.aload 7, 2) := by decide +kernel
theorem dX8_copy_81 : decode cX8_copy 81 = .ok (.iload 4, 2) := by decide +kernel
theorem dX8_copy_83 : decode cX8_copy 83 = .ok (.iload 5, 2) := by decide +kernel
theorem dX8_copy_85 : decode cX8_copy 85 = .ok (.invokevirtual 282, 3) := by decide +kernel
theorem dX8_copy_88 : decode cX8_copy 88 = .ok (.ifCond .ne 6, 3) := by decide +kernel
theorem dX8_copy_91 : decode cX8_copy 91 = .ok (.bipush (-12), 2) := by decide +kernel
theorem dX8_copy_93 : decode cX8_copy 93 = .ok (.ireturn, 1) := by decide +kernel
theorem dX8_copy_94 : decode cX8_copy 94 = .ok (.aload 6, 2) := by decide +kernel
theorem dX8_copy_96 : decode cX8_copy 96 = .ok (.getfield 285, 3) := by decide +kernel
theorem dX8_copy_99 : decode cX8_copy 99 = .ok (.iload_n 2, 1) := by decide +kernel
theorem dX8_copy_100 : decode cX8_copy 100 = .ok (.aload 7, 2) := by decide +kernel
theorem dX8_copy_102 : decode cX8_copy 102 = .ok (.getfield 285, 3) := by decide +kernel
theorem dX8_copy_105 : decode cX8_copy 105 = .ok (.iload 4, 2) := by decide +kernel
theorem dX8_copy_107 : decode cX8_copy 107 = .ok (.iload 5, 2) := by decide +kernel
theorem dX8_copy_109 : decode cX8_copy 109 = .ok (.invokestatic 288, 3) := by decide +kernel
theorem dX8_copy_112 : decode cX8_copy 112 = .ok (.iload 5, 2) := by decide +kernel
theorem dX8_copy_114 : decode cX8_copy 114 = .ok (.ireturn, 1) := by decide +kernel
theorem dX8_streetsBy_0 : decode cX8_streetsBy 0 = .ok (.iload_n 1, 1) := by decide +kernel
theorem dX8_streetsBy_1 : decode cX8_streetsBy 1 = .ok (.invokestatic 243, 3) := by decide +kernel
theorem dX8_streetsBy_4 : decode cX8_streetsBy 4 = .ok (.ifCond .eq 24, 3) := by decide +kernel
theorem dX8_streetsBy_7 : decode cX8_streetsBy 7 = .ok (.iload_n 2, 1) := by decide +kernel
theorem dX8_streetsBy_8 : decode cX8_streetsBy 8 = .ok (.ifCond .lt 20, 3) := by decide +kernel
theorem dX8_streetsBy_11 : decode cX8_streetsBy 11 = .ok (.iload_n 2, 1) := by decide +kernel
theorem dX8_streetsBy_12 : decode cX8_streetsBy 12 = .ok (.iconst 2, 1) := by decide +kernel
theorem dX8_streetsBy_13 : decode cX8_streetsBy 13 = .ok (.if_icmp .gt 15, 3) := by decide +kernel
theorem dX8_streetsBy_16 : decode cX8_streetsBy 16 = .ok (.iload 4, 2) := by decide +kernel
theorem dX8_streetsBy_18 : decode cX8_streetsBy 18 = .ok (.ifCond .lt 10, 3) := by decide +kernel
theorem dX8_streetsBy_21 : decode cX8_streetsBy 21 = .ok (.iload 4, 2) := by decide +kernel
theorem dX8_streetsBy_23 : decode cX8_streetsBy 23 = .ok (.bipush 10, 2) := by decide +kernel
theorem dX8_streetsBy_25 : decode cX8_streetsBy 25 = .ok (.if_icmp .le 6, 3) := by decide +kernel
theorem dX8_streetsBy_28 : decode cX8_streetsBy 28 = .ok (.bipush (-2), 2) := by decide +kernel
theorem dX8_streetsBy_30 : decode cX8_streetsBy 30 = .ok (.ireturn, 1) := by decide +kernel
theorem dX8_streetsBy_31 : decode cX8_streetsBy 31 = .ok (.aload_n 0, 1) := by decide +kernel
theorem dX8_streetsBy_32 : decode cX8_streetsBy 32 = .ok (.getfield 66, 3) := by decide +kernel
theorem dX8_streetsBy_35 : decode cX8_streetsBy 35 = .ok (.iload_n 1, 1) := by decide +kernel
theorem dX8_streetsBy_36 : decode cX8_streetsBy 36 = .ok (.aaload, 1) := by decide +kernel
theorem dX8_streetsBy_37 : decode cX8_streetsBy 37 = .ok (.astore 5, 2) := by decide +kernel
theorem dX8_streetsBy_39 : decode cX8_streetsBy 39 = .ok (.aload 5, 2) := by decide +kernel
theorem dX8_streetsBy_41 : decode cX8_streetsBy 41 = .ok (.invokevirtual 246, 3) := by decide +kernel
theorem dX8_streetsBy_44 : decode cX8_streetsBy 44 = .ok (.ifCond .eq 6, 3) := by decide +kernel
theorem dX8_streetsBy_47 : decode cX8_streetsBy 47 = .ok (.bipush (-11), 2) := by decide +kernel
theorem dX8_streetsBy_49 : decode cX8_streetsBy 49 = .ok (.ireturn, 1) := by decide +kernel
theorem dX8_streetsBy_50 : decode cX8_streetsBy 50 = .ok (.aload 5, 2) := by decide +kernel
theorem dX8_streetsBy_52 : decode cX8_streetsBy 52 = .ok (.getfield 279, 3) := by decide +kernel
theorem dX8_streetsBy_55 : decode cX8_streetsBy 55 = .ok (.iload_n 2, 1) := by decide +kernel
theorem dX8_streetsBy_56 : decode cX8_streetsBy 56 = .ok (.if_icmp .eq 6, 3) := by decide +kernel
theorem dX8_streetsBy_59 : decode cX8_streetsBy 59 = .ok (.bipush (-13), 2) := by decide +kernel
theorem dX8_streetsBy_61 : decode cX8_streetsBy 61 = .ok (.ireturn, 1) := by decide +kernel
theorem dX8_streetsBy_62 : decode cX8_streetsBy 62 = .ok (.iconst 0, 1) := by decide +kernel
theorem dX8_streetsBy_63 : decode cX8_streetsBy 63 = .ok (.istore 6, 2) := by decide +kernel
theorem dX8_streetsBy_65 : decode cX8_streetsBy 65 = .ok (.iload_n 3, 1) := by decide +kernel
theorem dX8_streetsBy_66 : decode cX8_streetsBy 66 = .ok (.istore 7, 2) := by decide +kernel
theorem dX8_streetsBy_68 : decode cX8_streetsBy 68 = .ok (.iconst 0, 1) := by decide +kernel
theorem dX8_streetsBy_69 : decode cX8_streetsBy 69 = .ok (.istore 8, 2) := by decide +kernel
theorem dX8_streetsBy_71 : decode cX8_streetsBy 71 = .ok (.iload 8, 2) := by decide +kernel
theorem dX8_streetsBy_73 : decode cX8_streetsBy 73 = .ok (.iload 4, 2) := by decide +kernel
theorem dX8_streetsBy_75 : decode cX8_streetsBy 75 = .ok (.if_icmp .ge 69, 3) := by decide +kernel
theorem dX8_streetsBy_78 : decode cX8_streetsBy 78 = .ok (.aload 5, 2) := by decide +kernel
theorem dX8_streetsBy_80 : decode cX8_streetsBy 80 = .ok (.iload 7, 2) := by decide +kernel
theorem dX8_streetsBy_82 : decode cX8_streetsBy 82 = .ok (.iconst 4, 1) := by decide +kernel
theorem dX8_streetsBy_83 : decode cX8_streetsBy 83 = .ok (.invokevirtual 282, 3) := by decide +kernel
theorem dX8_streetsBy_86 : decode cX8_streetsBy 86 = .ok (.ifCond .ne 6, 3) := by decide +kernel
theorem dX8_streetsBy_89 : decode cX8_streetsBy 89 = .ok (.bipush (-12), 2) := by decide +kernel
theorem dX8_streetsBy_91 : decode cX8_streetsBy 91 = .ok (.ireturn, 1) := by decide +kernel
theorem dX8_streetsBy_92 : decode cX8_streetsBy 92 = .ok (.aload 5, 2) := by decide +kernel
theorem dX8_streetsBy_94 : decode cX8_streetsBy 94 = .ok (.getfield 285, 3) := by decide +kernel
theorem dX8_streetsBy_97 : decode cX8_streetsBy 97 = .ok (.astore 9, 2) := by decide +kernel
theorem dX8_streetsBy_99 : decode cX8_streetsBy 99 = .ok (.aload_n 0, 1) := by decide +kernel
theorem dX8_streetsBy_100 : decode cX8_streetsBy 100 = .ok (.aload 9, 2) := by decide +kernel
theorem dX8_streetsBy_102 : decode cX8_streetsBy 102 = .ok (.iload 7, 2) := by decide +kernel
theorem dX8_streetsBy_104 : decode cX8_streetsBy 104 = .ok (.iaload, 1) := by decide +kernel
theorem dX8_streetsBy_105 : decode cX8_streetsBy 105 = .ok (.aload 9, 2) := by decide +kernel
theorem dX8_streetsBy_107 : decode cX8_streetsBy 107 = .ok (.iload 7, 2) := by decide +kernel
theorem dX8_streetsBy_109 : decode cX8_streetsBy 109 = .ok (.iconst 1, 1) := by decide +kernel
theorem dX8_streetsBy_110 : decode cX8_streetsBy 110 = .ok (.iadd, 1) := by decide +kernel
theorem dX8_streetsBy_111 : decode cX8_streetsBy 111 = .ok (.iaload, 1) := by decide +kernel
theorem dX8_streetsBy_112 : decode cX8_streetsBy 112 = .ok (.aload 9, 2) := by decide +kernel
theorem dX8_streetsBy_114 : decode cX8_streetsBy 114 = .ok (.iload 7, 2) := by decide +kernel
theorem dX8_streetsBy_116 : decode cX8_streetsBy 116 = .ok (.iconst 2, 1) := by decide +kernel
theorem dX8_streetsBy_117 : decode cX8_streetsBy 117 = .ok (.iadd, 1) := by decide +kernel
theorem dX8_streetsBy_118 : decode cX8_streetsBy 118 = .ok (.iaload, 1) := by decide +kernel
theorem dX8_streetsBy_119 : decode cX8_streetsBy 119 = .ok (.aload 9, 2) := by decide +kernel
theorem dX8_streetsBy_121 : decode cX8_streetsBy 121 = .ok (.iload 7, 2) := by decide +kernel
theorem dX8_streetsBy_123 : decode cX8_streetsBy 123 = .ok (.iconst 3, 1) := by decide +kernel
theorem dX8_streetsBy_124 : decode cX8_streetsBy 124 = .ok (.iadd, 1) := by decide +kernel
theorem dX8_streetsBy_125 : decode cX8_streetsBy 125 = .ok (.iaload, 1) := by decide +kernel
theorem dX8_streetsBy_126 : decode cX8_streetsBy 126 = .ok (.invokevirtual 294, 3) := by decide +kernel
theorem dX8_streetsBy_129 : decode cX8_streetsBy 129 = .ok (.ifCond .lt 6, 3) := by decide +kernel
theorem dX8_streetsBy_132 : decode cX8_streetsBy 132 = .ok (.iinc 6 1, 3) := by decide +kernel
theorem dX8_streetsBy_135 : decode cX8_streetsBy 135 = .ok (.iinc 7 4, 3) := by decide +kernel
theorem dX8_streetsBy_138 : decode cX8_streetsBy 138 = .ok (.iinc 8 1, 3) := by decide +kernel
theorem dX8_streetsBy_141 : decode cX8_streetsBy 141 = .ok (.goto (-70), 3) := by decide +kernel
theorem dX8_streetsBy_144 : decode cX8_streetsBy 144 = .ok (.iload 6, 2) := by decide +kernel
theorem dX8_streetsBy_146 : decode cX8_streetsBy 146 = .ok (.ireturn, 1) := by decide +kernel
theorem dX8_taken_0 : decode cX8_taken 0 = .ok (.iload_n 2, 1) := by decide +kernel
theorem dX8_taken_1 : decode cX8_taken 1 = .ok (.ifCond .lt 9, 3) := by decide +kernel
theorem dX8_taken_4 : decode cX8_taken 4 = .ok (.iload_n 2, 1) := by decide +kernel
theorem dX8_taken_5 : decode cX8_taken 5 = .ok (.bipush 6, 2) := by decide +kernel
theorem dX8_taken_7 : decode cX8_taken 7 = .ok (.if_icmp .le 6, 3) := by decide +kernel
theorem dX8_taken_10 : decode cX8_taken 10 = .ok (.bipush (-2), 2) := by decide +kernel
theorem dX8_taken_12 : decode cX8_taken 12 = .ok (.ireturn, 1) := by decide +kernel
theorem dX8_taken_13 : decode cX8_taken 13 = .ok (.iload_n 1, 1) := by decide +kernel
theorem dX8_taken_14 : decode cX8_taken 14 = .ok (.ifCond .lt 9, 3) := by decide +kernel
theorem dX8_taken_17 : decode cX8_taken 17 = .ok (.iload_n 1, 1) := by decide +kernel
theorem dX8_taken_18 : decode cX8_taken 18 = .ok (.bipush 21, 2) := by decide +kernel
theorem dX8_taken_20 : decode cX8_taken 20 = .ok (.if_icmp .lt 6, 3) := by decide +kernel
theorem dX8_taken_23 : decode cX8_taken 23 = .ok (.bipush (-12), 2) := by decide +kernel
theorem dX8_taken_25 : decode cX8_taken 25 = .ok (.ireturn, 1) := by decide +kernel
theorem dX8_taken_26 : decode cX8_taken 26 = .ok (.iload_n 1, 1) := by decide +kernel
theorem dX8_taken_27 : decode cX8_taken 27 = .ok (.bipush 9, 2) := by decide +kernel
theorem dX8_taken_29 : decode cX8_taken 29 = .ok (.isub, 1) := by decide +kernel
theorem dX8_taken_30 : decode cX8_taken 30 = .ok (.istore_n 3, 1) := by decide +kernel
theorem dX8_taken_31 : decode cX8_taken 31 = .ok (.aload_n 0, 1) := by decide +kernel
theorem dX8_taken_32 : decode cX8_taken 32 = .ok (.getfield 12, 3) := by decide +kernel
theorem dX8_taken_35 : decode cX8_taken 35 = .ok (.getfield 111, 3) := by decide +kernel
theorem dX8_taken_38 : decode cX8_taken 38 = .ok (.istore 4, 2) := by decide +kernel
theorem dX8_taken_40 : decode cX8_taken 40 = .ok (.iload_n 3, 1) := by decide +kernel
theorem dX8_taken_41 : decode cX8_taken 41 = .ok (.ifCond .ge 28, 3) := by decide +kernel
theorem dX8_taken_44 : decode cX8_taken 44 = .ok (.iload_n 2, 1) := by decide +kernel
theorem dX8_taken_45 : decode cX8_taken 45 = .ok (.bipush 6, 2) := by decide +kernel
theorem dX8_taken_47 : decode cX8_taken 47 = .ok (.if_icmp .ne 19, 3) := by decide +kernel
theorem dX8_taken_50 : decode cX8_taken 50 = .ok (.aload_n 0, 1) := by decide +kernel
theorem dX8_taken_51 : decode cX8_taken 51 = .ok (.getfield 25, 3) := by decide +kernel
theorem dX8_taken_54 : decode cX8_taken 54 = .ok (.iconst 1, 1) := by decide +kernel
theorem dX8_taken_55 : decode cX8_taken 55 = .ok (.iload_n 1, 1) := by decide +kernel
theorem dX8_taken_56 : decode cX8_taken 56 = .ok (.ishl, 1) := by decide +kernel
theorem dX8_taken_57 : decode cX8_taken 57 = .ok (.iconst (-1), 1) := by decide +kernel
theorem dX8_taken_58 : decode cX8_taken 58 = .ok (.iload 4, 2) := by decide +kernel
theorem dX8_taken_60 : decode cX8_taken 60 = .ok (.invokevirtual 237, 3) := by decide +kernel
theorem dX8_taken_63 : decode cX8_taken 63 = .ok (.goto 5, 3) := by decide +kernel
theorem dX8_taken_66 : decode cX8_taken 66 = .ok (.bipush (-13), 2) := by decide +kernel
theorem dX8_taken_68 : decode cX8_taken 68 = .ok (.ireturn, 1) := by decide +kernel
theorem dX8_taken_69 : decode cX8_taken 69 = .ok (.iload_n 3, 1) := by decide +kernel
theorem dX8_taken_70 : decode cX8_taken 70 = .ok (.iload 4, 2) := by decide +kernel
theorem dX8_taken_72 : decode cX8_taken 72 = .ok (.if_icmp .lt 6, 3) := by decide +kernel
theorem dX8_taken_75 : decode cX8_taken 75 = .ok (.bipush (-11), 2) := by decide +kernel
theorem dX8_taken_77 : decode cX8_taken 77 = .ok (.ireturn, 1) := by decide +kernel
theorem dX8_taken_78 : decode cX8_taken 78 = .ok (.aload_n 0, 1) := by decide +kernel
theorem dX8_taken_79 : decode cX8_taken 79 = .ok (.getfield 25, 3) := by decide +kernel
theorem dX8_taken_82 : decode cX8_taken 82 = .ok (.iload_n 3, 1) := by decide +kernel
theorem dX8_taken_83 : decode cX8_taken 83 = .ok (.iload_n 2, 1) := by decide +kernel
theorem dX8_taken_84 : decode cX8_taken 84 = .ok (.invokevirtual 298, 3) := by decide +kernel
theorem dX8_taken_87 : decode cX8_taken 87 = .ok (.ifCond .eq 7, 3) := by decide +kernel
theorem dX8_taken_90 : decode cX8_taken 90 = .ok (.iload_n 3, 1) := by decide +kernel
theorem dX8_taken_91 : decode cX8_taken 91 = .ok (.goto 5, 3) := by decide +kernel
theorem dX8_taken_94 : decode cX8_taken 94 = .ok (.bipush (-13), 2) := by decide +kernel
theorem dX8_taken_96 : decode cX8_taken 96 = .ok (.ireturn, 1) := by decide +kernel
theorem dX8_isByte_0 : decode cX8_isByte 0 = .ok (.iload_n 0, 1) := by decide +kernel
theorem dX8_isByte_1 : decode cX8_isByte 1 = .ok (.ifCond .lt 14, 3) := by decide +kernel
theorem dX8_isByte_4 : decode cX8_isByte 4 = .ok (.iload_n 0, 1) := by decide +kernel
theorem dX8_isByte_5 : decode cX8_isByte 5 = .ok (.sipush 255, 3) := by decide +kernel
theorem dX8_isByte_8 : decode cX8_isByte 8 = .ok (.if_icmp .gt 7, 3) := by decide +kernel
theorem dX8_isByte_11 : decode cX8_isByte 11 = .ok (.iconst 1, 1) := by decide +kernel
theorem dX8_isByte_12 : decode cX8_isByte 12 = .ok (.goto 4, 3) := by decide +kernel
theorem dX8_isByte_15 : decode cX8_isByte 15 = .ok (.iconst 0, 1) := by decide +kernel
theorem dX8_isByte_16 : decode cX8_isByte 16 = .ok (.ireturn, 1) := by decide +kernel
theorem dX8_isCorner_0 : decode cX8_isCorner 0 = .ok (.iload_n 0, 1) := by decide +kernel
theorem dX8_isCorner_1 : decode cX8_isCorner 1 = .ok (.ifCond .lt 13, 3) := by decide +kernel
theorem dX8_isCorner_4 : decode cX8_isCorner 4 = .ok (.iload_n 0, 1) := by decide +kernel
theorem dX8_isCorner_5 : decode cX8_isCorner 5 = .ok (.bipush 9, 2) := by decide +kernel
theorem dX8_isCorner_7 : decode cX8_isCorner 7 = .ok (.if_icmp .ge 7, 3) := by decide +kernel
theorem dX8_isCorner_10 : decode cX8_isCorner 10 = .ok (.iconst 1, 1) := by decide +kernel
theorem dX8_isCorner_11 : decode cX8_isCorner 11 = .ok (.goto 4, 3) := by decide +kernel
theorem dX8_isCorner_14 : decode cX8_isCorner 14 = .ok (.iconst 0, 1) := by decide +kernel
theorem dX8_isCorner_15 : decode cX8_isCorner 15 = .ok (.ireturn, 1) := by decide +kernel
theorem dX8_areCorners_0 : decode cX8_areCorners 0 = .ok (.iload_n 0, 1) := by decide +kernel
theorem dX8_areCorners_1 : decode cX8_areCorners 1 = .ok (.ifCond .lt 14, 3) := by decide +kernel
theorem dX8_areCorners_4 : decode cX8_areCorners 4 = .ok (.iload_n 0, 1) := by decide +kernel
theorem dX8_areCorners_5 : decode cX8_areCorners 5 = .ok (.sipush 511, 3) := by decide +kernel
theorem dX8_areCorners_8 : decode cX8_areCorners 8 = .ok (.if_icmp .gt 7, 3) := by decide +kernel
theorem dX8_areCorners_11 : decode cX8_areCorners 11 = .ok (.iconst 1, 1) := by decide +kernel
theorem dX8_areCorners_12 : decode cX8_areCorners 12 = .ok (.goto 4, 3) := by decide +kernel
theorem dX8_areCorners_15 : decode cX8_areCorners 15 = .ok (.iconst 0, 1) := by decide +kernel
theorem dX8_areCorners_16 : decode cX8_areCorners 16 = .ok (.ireturn, 1) := by decide +kernel
theorem dX8_isSheet_0 : decode cX8_isSheet 0 = .ok (.iload_n 0, 1) := by decide +kernel
theorem dX8_isSheet_1 : decode cX8_isSheet 1 = .ok (.ifCond .lt 12, 3) := by decide +kernel
theorem dX8_isSheet_4 : decode cX8_isSheet 4 = .ok (.iload_n 0, 1) := by decide +kernel
theorem dX8_isSheet_5 : decode cX8_isSheet 5 = .ok (.iconst 4, 1) := by decide +kernel
theorem dX8_isSheet_6 : decode cX8_isSheet 6 = .ok (.if_icmp .ge 7, 3) := by decide +kernel
theorem dX8_isSheet_9 : decode cX8_isSheet 9 = .ok (.iconst 1, 1) := by decide +kernel
theorem dX8_isSheet_10 : decode cX8_isSheet 10 = .ok (.goto 4, 3) := by decide +kernel
theorem dX8_isSheet_13 : decode cX8_isSheet 13 = .ok (.iconst 0, 1) := by decide +kernel
theorem dX8_isSheet_14 : decode cX8_isSheet 14 = .ok (.ireturn, 1) := by decide +kernel
theorem dX8_isStreet_0 : decode cX8_isStreet 0 = .ok (.iload_n 1, 1) := by decide +kernel
theorem dX8_isStreet_1 : decode cX8_isStreet 1 = .ok (.ifCond .lt 18, 3) := by decide +kernel
theorem dX8_isStreet_4 : decode cX8_isStreet 4 = .ok (.iload_n 1, 1) := by decide +kernel
theorem dX8_isStreet_5 : decode cX8_isStreet 5 = .ok (.aload_n 0, 1) := by decide +kernel
theorem dX8_isStreet_6 : decode cX8_isStreet 6 = .ok (.getfield 12, 3) := by decide +kernel
theorem dX8_isStreet_9 : decode cX8_isStreet 9 = .ok (.getfield 111, 3) := by decide +kernel
theorem dX8_isStreet_12 : decode cX8_isStreet 12 = .ok (.if_icmp .ge 7, 3) := by decide +kernel
theorem dX8_isStreet_15 : decode cX8_isStreet 15 = .ok (.iconst 1, 1) := by decide +kernel
theorem dX8_isStreet_16 : decode cX8_isStreet 16 = .ok (.goto 4, 3) := by decide +kernel
theorem dX8_isStreet_19 : decode cX8_isStreet 19 = .ok (.iconst 0, 1) := by decide +kernel
theorem dX8_isStreet_20 : decode cX8_isStreet 20 = .ok (.ireturn, 1) := by decide +kernel
theorem dX8_isAway_0 : decode cX8_isAway 0 = .ok (.iload_n 1, 1) := by decide +kernel
theorem dX8_isAway_1 : decode cX8_isAway 1 = .ok (.invokestatic 126, 3) := by decide +kernel
theorem dX8_isAway_4 : decode cX8_isAway 4 = .ok (.ifCond .eq 18, 3) := by decide +kernel
theorem dX8_isAway_7 : decode cX8_isAway 7 = .ok (.iload_n 1, 1) := by decide +kernel
theorem dX8_isAway_8 : decode cX8_isAway 8 = .ok (.aload_n 0, 1) := by decide +kernel
theorem dX8_isAway_9 : decode cX8_isAway 9 = .ok (.getfield 12, 3) := by decide +kernel
theorem dX8_isAway_12 : decode cX8_isAway 12 = .ok (.getfield 105, 3) := by decide +kernel
theorem dX8_isAway_15 : decode cX8_isAway 15 = .ok (.if_icmp .eq 7, 3) := by decide +kernel
theorem dX8_isAway_18 : decode cX8_isAway 18 = .ok (.iconst 1, 1) := by decide +kernel
theorem dX8_isAway_19 : decode cX8_isAway 19 = .ok (.goto 4, 3) := by decide +kernel
theorem dX8_isAway_22 : decode cX8_isAway 22 = .ok (.iconst 0, 1) := by decide +kernel
theorem dX8_isAway_23 : decode cX8_isAway 23 = .ok (.ireturn, 1) := by decide +kernel
theorem dX8_refusal_0 : decode cX8_refusal 0 = .ok (.aload_n 0, 1) := by decide +kernel
theorem dX8_refusal_1 : decode cX8_refusal 1 = .ok (.iload_n 1, 1) := by decide +kernel
theorem dX8_refusal_2 : decode cX8_refusal 2 = .ok (.invokevirtual 181, 3) := by decide +kernel
theorem dX8_refusal_5 : decode cX8_refusal 5 = .ok (.ifCond .ne 6, 3) := by decide +kernel
theorem dX8_refusal_8 : decode cX8_refusal 8 = .ok (.bipush (-5), 2) := by decide +kernel
theorem dX8_refusal_10 : decode cX8_refusal 10 = .ok (.ireturn, 1) := by decide +kernel
theorem dX8_refusal_11 : decode cX8_refusal 11 = .ok (.iload_n 2, 1) := by decide +kernel
theorem dX8_refusal_12 : decode cX8_refusal 12 = .ok (.ifCond .lt 8, 3) := by decide +kernel
theorem dX8_refusal_15 : decode cX8_refusal 15 = .ok (.iload_n 2, 1) := by decide +kernel
theorem dX8_refusal_16 : decode cX8_refusal 16 = .ok (.iload_n 3, 1) := by decide +kernel
theorem dX8_refusal_17 : decode cX8_refusal 17 = .ok (.if_icmp .lt 8, 3) := by decide +kernel
theorem dX8_refusal_20 : decode cX8_refusal 20 = .ok (.bipush (-7), 2) := by decide +kernel
theorem dX8_refusal_22 : decode cX8_refusal 22 = .ok (.goto 4, 3) := by decide +kernel
theorem dX8_refusal_25 : decode cX8_refusal 25 = .ok (.iconst 0, 1) := by decide +kernel
theorem dX8_refusal_26 : decode cX8_refusal 26 = .ok (.ireturn, 1) := by decide +kernel
theorem dX8_look_0 : decode cX8_look 0 = .ok (.aload_n 0, 1) := by decide +kernel
theorem dX8_look_1 : decode cX8_look 1 = .ok (.getfield 46, 3) := by decide +kernel
theorem dX8_look_4 : decode cX8_look 4 = .ok (.aload_n 1, 1) := by decide +kernel
theorem dX8_look_5 : decode cX8_look 5 = .ok (.aload_n 0, 1) := by decide +kernel
theorem dX8_look_6 : decode cX8_look 6 = .ok (.getfield 25, 3) := by decide +kernel
theorem dX8_look_9 : decode cX8_look 9 = .ok (.aload_n 0, 1) := by decide +kernel
theorem dX8_look_10 : decode cX8_look 10 = .ok (.getfield 39, 3) := by decide +kernel
theorem dX8_look_13 : decode cX8_look 13 = .ok (.invokevirtual 163, 3) := by decide +kernel
theorem dX8_look_16 : decode cX8_look 16 = .ok (.aload_n 0, 1) := by decide +kernel
theorem dX8_look_17 : decode cX8_look 17 = .ok (.getfield 53, 3) := by decide +kernel
theorem dX8_look_20 : decode cX8_look 20 = .ok (.aload_n 0, 1) := by decide +kernel
theorem dX8_look_21 : decode cX8_look 21 = .ok (.getfield 46, 3) := by decide +kernel
theorem dX8_look_24 : decode cX8_look 24 = .ok (.iload_n 2, 1) := by decide +kernel
theorem dX8_look_25 : decode cX8_look 25 = .ok (.iload_n 3, 1) := by decide +kernel
theorem dX8_look_26 : decode cX8_look 26 = .ok (.invokevirtual 301, 3) := by decide +kernel
theorem dX8_look_29 : decode cX8_look 29 = .ok (.return_, 1) := by decide +kernel
theorem dX8_leastRing_0 : decode cX8_leastRing 0 = .ok (.aload_n 0, 1) := by decide +kernel
theorem dX8_leastRing_1 : decode cX8_leastRing 1 = .ok (.getfield 46, 3) := by decide +kernel
theorem dX8_leastRing_4 : decode cX8_leastRing 4 = .ok (.aload_n 1, 1) := by decide +kernel
theorem dX8_leastRing_5 : decode cX8_leastRing 5 = .ok (.aload_n 0, 1) := by decide +kernel
theorem dX8_leastRing_6 : decode cX8_leastRing 6 = .ok (.getfield 25, 3) := by decide +kernel
theorem dX8_leastRing_9 : decode cX8_leastRing 9 = .ok (.aload_n 0, 1) := by decide +kernel
theorem dX8_leastRing_10 : decode cX8_leastRing 10 = .ok (.getfield 39, 3) := by decide +kernel
theorem dX8_leastRing_13 : decode cX8_leastRing 13 = .ok (.invokevirtual 163, 3) := by decide +kernel
theorem dX8_leastRing_16 : decode cX8_leastRing 16 = .ok (.iload_n 2, 1) := by decide +kernel
theorem dX8_leastRing_17 : decode cX8_leastRing 17 = .ok (.aload_n 0, 1) := by decide +kernel
theorem dX8_leastRing_18 : decode cX8_leastRing 18 = .ok (.getfield 46, 3) := by decide +kernel
theorem dX8_leastRing_21 : decode cX8_leastRing 21 = .ok (.invokevirtual 203, 3) := by decide +kernel
theorem dX8_leastRing_24 : decode cX8_leastRing 24 = .ok (.iconst (-1), 1) := by decide +kernel
theorem dX8_leastRing_25 : decode cX8_leastRing 25 = .ok (.ixor, 1) := by decide +kernel
theorem dX8_leastRing_26 : decode cX8_leastRing 26 = .ok (.iand, 1) := by decide +kernel
theorem dX8_leastRing_27 : decode cX8_leastRing 27 = .ok (.ifCond .eq 5, 3) := by decide +kernel
theorem dX8_leastRing_30 : decode cX8_leastRing 30 = .ok (.iconst (-1), 1) := by decide +kernel
theorem dX8_leastRing_31 : decode cX8_leastRing 31 = .ok (.ireturn, 1) := by decide +kernel
theorem dX8_leastRing_32 : decode cX8_leastRing 32 = .ok (.aload_n 0, 1) := by decide +kernel
theorem dX8_leastRing_33 : decode cX8_leastRing 33 = .ok (.getfield 53, 3) := by decide +kernel
theorem dX8_leastRing_36 : decode cX8_leastRing 36 = .ok (.aload_n 0, 1) := by decide +kernel
theorem dX8_leastRing_37 : decode cX8_leastRing 37 = .ok (.getfield 46, 3) := by decide +kernel
theorem dX8_leastRing_40 : decode cX8_leastRing 40 = .ok (.iload_n 2, 1) := by decide +kernel
theorem dX8_leastRing_41 : decode cX8_leastRing 41 = .ok (.iload_n 3, 1) := by decide +kernel
theorem dX8_leastRing_42 : decode cX8_leastRing 42 = .ok (.invokevirtual 301, 3) := by decide +kernel
theorem dX8_leastRing_45 : decode cX8_leastRing 45 = .ok (.aload_n 0, 1) := by decide +kernel
theorem dX8_leastRing_46 : decode cX8_leastRing 46 = .ok (.getfield 53, 3) := by decide +kernel
theorem dX8_leastRing_49 : decode cX8_leastRing 49 = .ok (.iload_n 2, 1) := by decide +kernel
theorem dX8_leastRing_50 : decode cX8_leastRing 50 = .ok (.invokevirtual 194, 3) := by decide +kernel
theorem dX8_leastRing_53 : decode cX8_leastRing 53 = .ok (.istore 5, 2) := by decide +kernel
theorem dX8_leastRing_55 : decode cX8_leastRing 55 = .ok (.iload 5, 2) := by decide +kernel
theorem dX8_leastRing_57 : decode cX8_leastRing 57 = .ok (.ifCond .ge 5, 3) := by decide +kernel
theorem dX8_leastRing_60 : decode cX8_leastRing 60 = .ok (.iconst (-1), 1) := by decide +kernel
theorem dX8_leastRing_61 : decode cX8_leastRing 61 = .ok (.ireturn, 1) := by decide +kernel
theorem dX8_leastRing_62 : decode cX8_leastRing 62 = .ok (.iload 4, 2) := by decide +kernel
theorem dX8_leastRing_64 : decode cX8_leastRing 64 = .ok (.tableswitch 52 0 2 #[28, 38, 41], 28) := by decide +kernel
theorem dX8_leastRing_92 : decode cX8_leastRing 92 = .ok (.aload_n 0, 1) := by decide +kernel
theorem dX8_leastRing_93 : decode cX8_leastRing 93 = .ok (.getfield 53, 3) := by decide +kernel
theorem dX8_leastRing_96 : decode cX8_leastRing 96 = .ok (.iload 5, 2) := by decide +kernel
theorem dX8_leastRing_98 : decode cX8_leastRing 98 = .ok (.invokevirtual 197, 3) := by decide +kernel
theorem dX8_leastRing_101 : decode cX8_leastRing 101 = .ok (.ireturn, 1) := by decide +kernel
theorem dX8_leastRing_102 : decode cX8_leastRing 102 = .ok (.iload 5, 2) := by decide +kernel
theorem dX8_leastRing_104 : decode cX8_leastRing 104 = .ok (.ireturn, 1) := by decide +kernel
theorem dX8_leastRing_105 : decode cX8_leastRing 105 = .ok (.aload_n 0, 1) := by decide +kernel
theorem dX8_leastRing_106 : decode cX8_leastRing 106 = .ok (.getfield 53, 3) := by decide +kernel
theorem dX8_leastRing_109 : decode cX8_leastRing 109 = .ok (.iload 5, 2) := by decide +kernel
theorem dX8_leastRing_111 : decode cX8_leastRing 111 = .ok (.iconst 0, 1) := by decide +kernel
theorem dX8_leastRing_112 : decode cX8_leastRing 112 = .ok (.invokevirtual 263, 3) := by decide +kernel
theorem dX8_leastRing_115 : decode cX8_leastRing 115 = .ok (.ireturn, 1) := by decide +kernel
theorem dX8_leastRing_116 : decode cX8_leastRing 116 = .ok (.iload 5, 2) := by decide +kernel
theorem dX8_leastRing_118 : decode cX8_leastRing 118 = .ok (.invokestatic 219, 3) := by decide +kernel
theorem dX8_leastRing_121 : decode cX8_leastRing 121 = .ok (.ireturn, 1) := by decide +kernel
theorem dX8_ringed_0 : decode cX8_ringed 0 = .ok (.aload_n 0, 1) := by decide +kernel
theorem dX8_ringed_1 : decode cX8_ringed 1 = .ok (.aload_n 1, 1) := by decide +kernel
theorem dX8_ringed_2 : decode cX8_ringed 2 = .ok (.sipush 512, 3) := by decide +kernel
theorem dX8_ringed_5 : decode cX8_ringed 5 = .ok (.iconst 0, 1) := by decide +kernel
theorem dX8_ringed_6 : decode cX8_ringed 6 = .ok (.invokevirtual 187, 3) := by decide +kernel
theorem dX8_ringed_9 : decode cX8_ringed 9 = .ok (.aload_n 0, 1) := by decide +kernel
theorem dX8_ringed_10 : decode cX8_ringed 10 = .ok (.getfield 53, 3) := by decide +kernel
theorem dX8_ringed_13 : decode cX8_ringed 13 = .ok (.iconst (-1), 1) := by decide +kernel
theorem dX8_ringed_14 : decode cX8_ringed 14 = .ok (.invokevirtual 209, 3) := by decide +kernel
theorem dX8_ringed_17 : decode cX8_ringed 17 = .ok (.ireturn, 1) := by decide +kernel
theorem dX8_minutesFrom_0 : decode cX8_minutesFrom 0 = .ok (.aload_n 0, 1) := by decide +kernel
theorem dX8_minutesFrom_1 : decode cX8_minutesFrom 1 = .ok (.getfield 19, 3) := by decide +kernel
theorem dX8_minutesFrom_4 : decode cX8_minutesFrom 4 = .ok (.aload_n 0, 1) := by decide +kernel
theorem dX8_minutesFrom_5 : decode cX8_minutesFrom 5 = .ok (.getfield 12, 3) := by decide +kernel
theorem dX8_minutesFrom_8 : decode cX8_minutesFrom 8 = .ok (.invokevirtual 212, 3) := by decide +kernel
theorem dX8_minutesFrom_11 : decode cX8_minutesFrom 11 = .ok (.aload_n 0, 1) := by decide +kernel
theorem dX8_minutesFrom_12 : decode cX8_minutesFrom 12 = .ok (.getfield 19, 3) := by decide +kernel
theorem dX8_minutesFrom_15 : decode cX8_minutesFrom 15 = .ok (.iload_n 1, 1) := by decide +kernel
theorem dX8_minutesFrom_16 : decode cX8_minutesFrom 16 = .ok (.putfield 105, 3) := by decide +kernel
theorem dX8_minutesFrom_19 : decode cX8_minutesFrom 19 = .ok (.aload_n 0, 1) := by decide +kernel
theorem dX8_minutesFrom_20 : decode cX8_minutesFrom 20 = .ok (.aload_n 0, 1) := by decide +kernel
theorem dX8_minutesFrom_21 : decode cX8_minutesFrom 21 = .ok (.getfield 19, 3) := by decide +kernel
theorem dX8_minutesFrom_24 : decode cX8_minutesFrom 24 = .ok (.sipush 512, 3) := by decide +kernel
theorem dX8_minutesFrom_27 : decode cX8_minutesFrom 27 = .ok (.iconst 0, 1) := by decide +kernel
theorem dX8_minutesFrom_28 : decode cX8_minutesFrom 28 = .ok (.invokevirtual 187, 3) := by decide +kernel
theorem dX8_minutesFrom_31 : decode cX8_minutesFrom 31 = .ok (.iconst 0, 1) := by decide +kernel
theorem dX8_minutesFrom_32 : decode cX8_minutesFrom 32 = .ok (.istore_n 3, 1) := by decide +kernel
theorem dX8_minutesFrom_33 : decode cX8_minutesFrom 33 = .ok (.iconst 0, 1) := by decide +kernel
theorem dX8_minutesFrom_34 : decode cX8_minutesFrom 34 = .ok (.istore 4, 2) := by decide +kernel
theorem dX8_minutesFrom_36 : decode cX8_minutesFrom 36 = .ok (.iload 4, 2) := by decide +kernel
theorem dX8_minutesFrom_38 : decode cX8_minutesFrom 38 = .ok (.bipush 9, 2) := by decide +kernel
theorem dX8_minutesFrom_40 : decode cX8_minutesFrom 40 = .ok (.if_icmp .ge 59, 3) := by decide +kernel
theorem dX8_minutesFrom_43 : decode cX8_minutesFrom 43 = .ok (.iload 4, 2) := by decide +kernel
theorem dX8_minutesFrom_45 : decode cX8_minutesFrom 45 = .ok (.iload_n 1, 1) := by decide +kernel
theorem dX8_minutesFrom_46 : decode cX8_minutesFrom 46 = .ok (.if_icmp .eq 47, 3) := by decide +kernel
theorem dX8_minutesFrom_49 : decode cX8_minutesFrom 49 = .ok (.iload_n 2, 1) := by decide +kernel
theorem dX8_minutesFrom_50 : decode cX8_minutesFrom 50 = .ok (.iload 4, 2) := by decide +kernel
theorem dX8_minutesFrom_52 : decode cX8_minutesFrom 52 = .ok (.ishr, 1) := by decide +kernel
theorem dX8_minutesFrom_53 : decode cX8_minutesFrom 53 = .ok (.iconst 1, 1) := by decide +kernel
theorem dX8_minutesFrom_54 : decode cX8_minutesFrom 54 = .ok (.iand, 1) := by decide +kernel
theorem dX8_minutesFrom_55 : decode cX8_minutesFrom 55 = .ok (.ifCond .ne 6, 3) := by decide +kernel
theorem dX8_minutesFrom_58 : decode cX8_minutesFrom 58 = .ok (.goto 35, 3) := by decide +kernel
theorem dX8_minutesFrom_61 : decode cX8_minutesFrom 61 = .ok (.aload_n 0, 1) := by decide +kernel
theorem dX8_minutesFrom_62 : decode cX8_minutesFrom 62 = .ok (.getfield 53, 3) := by decide +kernel
theorem dX8_minutesFrom_65 : decode cX8_minutesFrom 65 = .ok (.iconst 1, 1) := by decide +kernel
theorem dX8_minutesFrom_66 : decode cX8_minutesFrom 66 = .ok (.iload 4, 2) := by decide +kernel
theorem dX8_minutesFrom_68 : decode cX8_minutesFrom 68 = .ok (.ishl, 1) := by decide +kernel
theorem dX8_minutesFrom_69 : decode cX8_minutesFrom 69 = .ok (.invokevirtual 194, 3) := by decide +kernel
theorem dX8_minutesFrom_72 : decode cX8_minutesFrom 72 = .ok (.istore 5, 2) := by decide +kernel
theorem dX8_minutesFrom_74 : decode cX8_minutesFrom 74 = .ok (.iload 5, 2) := by decide +kernel
theorem dX8_minutesFrom_76 : decode cX8_minutesFrom 76 = .ok (.ifCond .ge 5, 3) := by decide +kernel
theorem dX8_minutesFrom_79 : decode cX8_minutesFrom 79 = .ok (.iconst (-1), 1) := by decide +kernel
theorem dX8_minutesFrom_80 : decode cX8_minutesFrom 80 = .ok (.ireturn, 1) := by decide +kernel
theorem dX8_minutesFrom_81 : decode cX8_minutesFrom 81 = .ok (.iload_n 3, 1) := by decide +kernel
theorem dX8_minutesFrom_82 : decode cX8_minutesFrom 82 = .ok (.aload_n 0, 1) := by decide +kernel
theorem dX8_minutesFrom_83 : decode cX8_minutesFrom 83 = .ok (.getfield 53, 3) := by decide +kernel
theorem dX8_minutesFrom_86 : decode cX8_minutesFrom 86 = .ok (.iload 5, 2) := by decide +kernel
theorem dX8_minutesFrom_88 : decode cX8_minutesFrom 88 = .ok (.invokevirtual 197, 3) := by decide +kernel
theorem dX8_minutesFrom_91 : decode cX8_minutesFrom 91 = .ok (.iadd, 1) := by decide +kernel
theorem dX8_minutesFrom_92 : decode cX8_minutesFrom 92 = .ok (.istore_n 3, 1) := by decide +kernel
theorem dX8_minutesFrom_93 : decode cX8_minutesFrom 93 = .ok (.iinc 4 1, 3) := by decide +kernel
theorem dX8_minutesFrom_96 : decode cX8_minutesFrom 96 = .ok (.goto (-60), 3) := by decide +kernel
theorem dX8_minutesFrom_99 : decode cX8_minutesFrom 99 = .ok (.iload_n 3, 1) := by decide +kernel
theorem dX8_minutesFrom_100 : decode cX8_minutesFrom 100 = .ok (.ireturn, 1) := by decide +kernel
theorem dX8_follow_0 : decode cX8_follow 0 = .ok (.aload_n 0, 1) := by decide +kernel
theorem dX8_follow_1 : decode cX8_follow 1 = .ok (.getfield 46, 3) := by decide +kernel
theorem dX8_follow_4 : decode cX8_follow 4 = .ok (.aload_n 0, 1) := by decide +kernel
theorem dX8_follow_5 : decode cX8_follow 5 = .ok (.getfield 12, 3) := by decide +kernel
theorem dX8_follow_8 : decode cX8_follow 8 = .ok (.aload_n 0, 1) := by decide +kernel
theorem dX8_follow_9 : decode cX8_follow 9 = .ok (.getfield 25, 3) := by decide +kernel
theorem dX8_follow_12 : decode cX8_follow 12 = .ok (.aload_n 0, 1) := by decide +kernel
theorem dX8_follow_13 : decode cX8_follow 13 = .ok (.getfield 39, 3) := by decide +kernel
theorem dX8_follow_16 : decode cX8_follow 16 = .ok (.invokevirtual 163, 3) := by decide +kernel
theorem dX8_follow_19 : decode cX8_follow 19 = .ok (.aload_n 0, 1) := by decide +kernel
theorem dX8_follow_20 : decode cX8_follow 20 = .ok (.getfield 60, 3) := by decide +kernel
theorem dX8_follow_23 : decode cX8_follow 23 = .ok (.aload_n 0, 1) := by decide +kernel
theorem dX8_follow_24 : decode cX8_follow 24 = .ok (.getfield 46, 3) := by decide +kernel
theorem dX8_follow_27 : decode cX8_follow 27 = .ok (.invokevirtual 305, 3) := by decide +kernel
theorem dX8_follow_30 : decode cX8_follow 30 = .ok (.iconst 0, 1) := by decide +kernel
theorem dX8_follow_31 : decode cX8_follow 31 = .ok (.istore_n 2, 1) := by decide +kernel
theorem dX8_follow_32 : decode cX8_follow 32 = .ok (.iload_n 2, 1) := by decide +kernel
theorem dX8_follow_33 : decode cX8_follow 33 = .ok (.aload_n 1, 1) := by decide +kernel
theorem dX8_follow_34 : decode cX8_follow 34 = .ok (.getfield 278, 3) := by decide +kernel
theorem dX8_follow_37 : decode cX8_follow 37 = .ok (.if_icmp .ge 90, 3) := by decide +kernel
theorem dX8_follow_40 : decode cX8_follow 40 = .ok (.aload_n 1, 1) := by decide +kernel
theorem dX8_follow_41 : decode cX8_follow 41 = .ok (.getfield 285, 3) := by decide +kernel
theorem dX8_follow_44 : decode cX8_follow 44 = .ok (.iload_n 2, 1) := by decide +kernel
theorem dX8_follow_45 : decode cX8_follow 45 = .ok (.iaload, 1) := by decide +kernel
theorem dX8_follow_46 : decode cX8_follow 46 = .ok (.istore_n 3, 1) := by decide +kernel
theorem dX8_follow_47 : decode cX8_follow 47 = .ok (.aload_n 0, 1) := by decide +kernel
theorem dX8_follow_48 : decode cX8_follow 48 = .ok (.iload_n 3, 1) := by decide +kernel
theorem dX8_follow_49 : decode cX8_follow 49 = .ok (.invokevirtual 136, 3) := by decide +kernel
theorem dX8_follow_52 : decode cX8_follow 52 = .ok (.ifCond .eq 25, 3) := by decide +kernel
theorem dX8_follow_55 : decode cX8_follow 55 = .ok (.aload_n 0, 1) := by decide +kernel
theorem dX8_follow_56 : decode cX8_follow 56 = .ok (.getfield 46, 3) := by decide +kernel
theorem dX8_follow_59 : decode cX8_follow 59 = .ok (.aload_n 0, 1) := by decide +kernel
theorem dX8_follow_60 : decode cX8_follow 60 = .ok (.getfield 60, 3) := by decide +kernel
theorem dX8_follow_63 : decode cX8_follow 63 = .ok (.getfield 309, 3) := by decide +kernel
theorem dX8_follow_66 : decode cX8_follow 66 = .ok (.iconst 0, 1) := by decide +kernel
theorem dX8_follow_67 : decode cX8_follow 67 = .ok (.invokevirtual 312, 3) := by decide +kernel
theorem dX8_follow_70 : decode cX8_follow 70 = .ok (.iload_n 3, 1) := by decide +kernel
theorem dX8_follow_71 : decode cX8_follow 71 = .ok (.ishr, 1) := by decide +kernel
theorem dX8_follow_72 : decode cX8_follow 72 = .ok (.iconst 1, 1) := by decide +kernel
theorem dX8_follow_73 : decode cX8_follow 73 = .ok (.iand, 1) := by decide +kernel
theorem dX8_follow_74 : decode cX8_follow 74 = .ok (.ifCond .ne 5, 3) := by decide +kernel
theorem dX8_follow_77 : decode cX8_follow 77 = .ok (.iload_n 2, 1) := by decide +kernel
theorem dX8_follow_78 : decode cX8_follow 78 = .ok (.ireturn, 1) := by decide +kernel
theorem dX8_follow_79 : decode cX8_follow 79 = .ok (.iload_n 2, 1) := by decide +kernel
theorem dX8_follow_80 : decode cX8_follow 80 = .ok (.aload_n 1, 1) := by decide +kernel
theorem dX8_follow_81 : decode cX8_follow 81 = .ok (.getfield 278, 3) := by decide +kernel
theorem dX8_follow_84 : decode cX8_follow 84 = .ok (.iconst 1, 1) := by decide +kernel
theorem dX8_follow_85 : decode cX8_follow 85 = .ok (.isub, 1) := by decide +kernel
theorem dX8_follow_86 : decode cX8_follow 86 = .ok (.if_icmp .ge 23, 3) := by decide +kernel
theorem dX8_follow_89 : decode cX8_follow 89 = .ok (.aload_n 0, 1) := by decide +kernel
theorem dX8_follow_90 : decode cX8_follow 90 = .ok (.getfield 46, 3) := by decide +kernel
theorem dX8_follow_93 : decode cX8_follow 93 = .ok (.aload_n 0, 1) := by decide +kernel
theorem dX8_follow_94 : decode cX8_follow 94 = .ok (.getfield 60, 3) := by decide +kernel
theorem dX8_follow_97 : decode cX8_follow 97 = .ok (.getfield 309, 3) := by decide +kernel
theorem dX8_follow_100 : decode cX8_follow 100 = .ok (.iload_n 3, 1) := by decide +kernel
theorem dX8_follow_101 : decode cX8_follow 101 = .ok (.invokevirtual 315, 3) := by decide +kernel
theorem dX8_follow_104 : decode cX8_follow 104 = .ok (.ifCond .eq 5, 3) := by decide +kernel
theorem dX8_follow_107 : decode cX8_follow 107 = .ok (.iload_n 2, 1) := by decide +kernel
theorem dX8_follow_108 : decode cX8_follow 108 = .ok (.ireturn, 1) := by decide +kernel
theorem dX8_follow_109 : decode cX8_follow 109 = .ok (.aload_n 0, 1) := by decide +kernel
theorem dX8_follow_110 : decode cX8_follow 110 = .ok (.getfield 60, 3) := by decide +kernel
theorem dX8_follow_113 : decode cX8_follow 113 = .ok (.aload_n 0, 1) := by decide +kernel
theorem dX8_follow_114 : decode cX8_follow 114 = .ok (.getfield 46, 3) := by decide +kernel
theorem dX8_follow_117 : decode cX8_follow 117 = .ok (.iload_n 3, 1) := by decide +kernel
theorem dX8_follow_118 : decode cX8_follow 118 = .ok (.invokevirtual 318, 3) := by decide +kernel
theorem dX8_follow_121 : decode cX8_follow 121 = .ok (.iinc 2 1, 3) := by decide +kernel
theorem dX8_follow_124 : decode cX8_follow 124 = .ok (.goto (-92), 3) := by decide +kernel
theorem dX8_follow_127 : decode cX8_follow 127 = .ok (.iconst (-1), 1) := by decide +kernel
theorem dX8_follow_128 : decode cX8_follow 128 = .ok (.ireturn, 1) := by decide +kernel
theorem dX8_stray_0 : decode cX8_stray 0 = .ok (.aload_n 0, 1) := by decide +kernel
theorem dX8_stray_1 : decode cX8_stray 1 = .ok (.getfield 60, 3) := by decide +kernel
theorem dX8_stray_4 : decode cX8_stray 4 = .ok (.aload_n 0, 1) := by decide +kernel
theorem dX8_stray_5 : decode cX8_stray 5 = .ok (.getfield 46, 3) := by decide +kernel
theorem dX8_stray_8 : decode cX8_stray 8 = .ok (.invokevirtual 305, 3) := by decide +kernel
theorem dX8_stray_11 : decode cX8_stray 11 = .ok (.iload_n 1, 1) := by decide +kernel
theorem dX8_stray_12 : decode cX8_stray 12 = .ok (.i2l, 1) := by decide +kernel
theorem dX8_stray_13 : decode cX8_stray 13 = .ok (.lconst 1, 1) := by decide +kernel
theorem dX8_stray_14 : decode cX8_stray 14 = .ok (.ladd, 1) := by decide +kernel
theorem dX8_stray_15 : decode cX8_stray 15 = .ok (.lstore_n 2, 1) := by decide +kernel
theorem dX8_stray_16 : decode cX8_stray 16 = .ok (.iconst 0, 1) := by decide +kernel
theorem dX8_stray_17 : decode cX8_stray 17 = .ok (.istore 4, 2) := by decide +kernel
theorem dX8_stray_19 : decode cX8_stray 19 = .ok (.iload 4, 2) := by decide +kernel
theorem dX8_stray_21 : decode cX8_stray 21 = .ok (.bipush 12, 2) := by decide +kernel
theorem dX8_stray_23 : decode cX8_stray 23 = .ok (.if_icmp .ge 93, 3) := by decide +kernel
theorem dX8_stray_26 : decode cX8_stray 26 = .ok (.aload_n 0, 1) := by decide +kernel
theorem dX8_stray_27 : decode cX8_stray 27 = .ok (.getfield 46, 3) := by decide +kernel
theorem dX8_stray_30 : decode cX8_stray 30 = .ok (.aload_n 0, 1) := by decide +kernel
theorem dX8_stray_31 : decode cX8_stray 31 = .ok (.getfield 60, 3) := by decide +kernel
theorem dX8_stray_34 : decode cX8_stray 34 = .ok (.getfield 309, 3) := by decide +kernel
theorem dX8_stray_37 : decode cX8_stray 37 = .ok (.iconst 0, 1) := by decide +kernel
theorem dX8_stray_38 : decode cX8_stray 38 = .ok (.invokevirtual 312, 3) := by decide +kernel
theorem dX8_stray_41 : decode cX8_stray 41 = .ok (.istore 5, 2) := by decide +kernel
theorem dX8_stray_43 : decode cX8_stray 43 = .ok (.iload 5, 2) := by decide +kernel
theorem dX8_stray_45 : decode cX8_stray 45 = .ok (.invokestatic 219, 3) := by decide +kernel
theorem dX8_stray_48 : decode cX8_stray 48 = .ok (.istore 6, 2) := by decide +kernel
theorem dX8_stray_50 : decode cX8_stray 50 = .ok (.iload 6, 2) := by decide +kernel
theorem dX8_stray_52 : decode cX8_stray 52 = .ok (.ifCond .eq 25, 3) := by decide +kernel
theorem dX8_stray_55 : decode cX8_stray 55 = .ok (.iload 4, 2) := by decide +kernel
theorem dX8_stray_57 : decode cX8_stray 57 = .ok (.ifCond .le 21, 3) := by decide +kernel
theorem dX8_stray_60 : decode cX8_stray 60 = .ok (.aload_n 0, 1) := by decide +kernel
theorem dX8_stray_61 : decode cX8_stray 61 = .ok (.getfield 60, 3) := by decide +kernel
theorem dX8_stray_64 : decode cX8_stray 64 = .ok (.invokevirtual 256, 3) := by decide +kernel
theorem dX8_stray_67 : decode cX8_stray 67 = .ok (.aload_n 0, 1) := by decide +kernel
theorem dX8_stray_68 : decode cX8_stray 68 = .ok (.getfield 12, 3) := by decide +kernel
theorem dX8_stray_71 : decode cX8_stray 71 = .ok (.getfield 105, 3) := by decide +kernel
theorem dX8_stray_74 : decode cX8_stray 74 = .ok (.if_icmp .ne 4, 3) := by decide +kernel
theorem dX8_stray_77 : decode cX8_stray 77 = .ok (.return_, 1) := by decide +kernel
theorem dX8_stray_78 : decode cX8_stray 78 = .ok (.lload_n 2, 1) := by decide +kernel
theorem dX8_stray_79 : decode cX8_stray 79 = .ok (.ldc2_w 322, 3) := by decide +kernel
theorem dX8_stray_82 : decode cX8_stray 82 = .ok (.lmul, 1) := by decide +kernel
theorem dX8_stray_83 : decode cX8_stray 83 = .ok (.ldc2_w 324, 3) := by decide +kernel
theorem dX8_stray_86 : decode cX8_stray 86 = .ok (.lrem, 1) := by decide +kernel
theorem dX8_stray_87 : decode cX8_stray 87 = .ok (.lstore_n 2, 1) := by decide +kernel
theorem dX8_stray_88 : decode cX8_stray 88 = .ok (.aload_n 0, 1) := by decide +kernel
theorem dX8_stray_89 : decode cX8_stray 89 = .ok (.getfield 60, 3) := by decide +kernel
theorem dX8_stray_92 : decode cX8_stray 92 = .ok (.aload_n 0, 1) := by decide +kernel
theorem dX8_stray_93 : decode cX8_stray 93 = .ok (.getfield 46, 3) := by decide +kernel
theorem dX8_stray_96 : decode cX8_stray 96 = .ok (.iload 5, 2) := by decide +kernel
theorem dX8_stray_98 : decode cX8_stray 98 = .ok (.lload_n 2, 1) := by decide +kernel
theorem dX8_stray_99 : decode cX8_stray 99 = .ok (.iload 6, 2) := by decide +kernel
theorem dX8_stray_101 : decode cX8_stray 101 = .ok (.i2l, 1) := by decide +kernel
theorem dX8_stray_102 : decode cX8_stray 102 = .ok (.lrem, 1) := by decide +kernel
theorem dX8_stray_103 : decode cX8_stray 103 = .ok (.l2i, 1) := by decide +kernel
theorem dX8_stray_104 : decode cX8_stray 104 = .ok (.invokestatic 326, 3) := by decide +kernel
theorem dX8_stray_107 : decode cX8_stray 107 = .ok (.invokevirtual 318, 3) := by decide +kernel
theorem dX8_stray_110 : decode cX8_stray 110 = .ok (.iinc 4 1, 3) := by decide +kernel
theorem dX8_stray_113 : decode cX8_stray 113 = .ok (.goto (-94), 3) := by decide +kernel
theorem dX8_stray_116 : decode cX8_stray 116 = .ok (.return_, 1) := by decide +kernel
theorem dX8_pick_0 : decode cX8_pick 0 = .ok (.iload_n 1, 1) := by decide +kernel
theorem dX8_pick_1 : decode cX8_pick 1 = .ok (.istore_n 2, 1) := by decide +kernel
theorem dX8_pick_2 : decode cX8_pick 2 = .ok (.iconst 0, 1) := by decide +kernel
theorem dX8_pick_3 : decode cX8_pick 3 = .ok (.istore_n 3, 1) := by decide +kernel
theorem dX8_pick_4 : decode cX8_pick 4 = .ok (.iload_n 3, 1) := by decide +kernel
theorem dX8_pick_5 : decode cX8_pick 5 = .ok (.bipush 12, 2) := by decide +kernel
theorem dX8_pick_7 : decode cX8_pick 7 = .ok (.if_icmp .ge 26, 3) := by decide +kernel
theorem dX8_pick_10 : decode cX8_pick 10 = .ok (.iload_n 0, 1) := by decide +kernel
theorem dX8_pick_11 : decode cX8_pick 11 = .ok (.iload_n 3, 1) := by decide +kernel
theorem dX8_pick_12 : decode cX8_pick 12 = .ok (.ishr, 1) := by decide +kernel
theorem dX8_pick_13 : decode cX8_pick 13 = .ok (.iconst 1, 1) := by decide +kernel
theorem dX8_pick_14 : decode cX8_pick 14 = .ok (.iand, 1) := by decide +kernel
theorem dX8_pick_15 : decode cX8_pick 15 = .ok (.ifCond .eq 12, 3) := by decide +kernel
theorem dX8_pick_18 : decode cX8_pick 18 = .ok (.iload_n 2, 1) := by decide +kernel
theorem dX8_pick_19 : decode cX8_pick 19 = .ok (.iinc 2 (-1), 3) := by decide +kernel
theorem dX8_pick_22 : decode cX8_pick 22 = .ok (.ifCond .ne 5, 3) := by decide +kernel
theorem dX8_pick_25 : decode cX8_pick 25 = .ok (.iload_n 3, 1) := by decide +kernel
theorem dX8_pick_26 : decode cX8_pick 26 = .ok (.ireturn, 1) := by decide +kernel
theorem dX8_pick_27 : decode cX8_pick 27 = .ok (.iinc 3 1, 3) := by decide +kernel
theorem dX8_pick_30 : decode cX8_pick 30 = .ok (.goto (-26), 3) := by decide +kernel
theorem dX8_pick_33 : decode cX8_pick 33 = .ok (.iconst 0, 1) := by decide +kernel
theorem dX8_pick_34 : decode cX8_pick 34 = .ok (.ireturn, 1) := by decide +kernel
theorem dX8_commonDivisor_0 : decode cX8_commonDivisor 0 = .ok (.iload_n 1, 1) := by decide +kernel
theorem dX8_commonDivisor_1 : decode cX8_commonDivisor 1 = .ok (.istore_n 2, 1) := by decide +kernel
theorem dX8_commonDivisor_2 : decode cX8_commonDivisor 2 = .ok (.iload_n 2, 1) := by decide +kernel
theorem dX8_commonDivisor_3 : decode cX8_commonDivisor 3 = .ok (.iconst 1, 1) := by decide +kernel
theorem dX8_commonDivisor_4 : decode cX8_commonDivisor 4 = .ok (.if_icmp .le 23, 3) := by decide +kernel
theorem dX8_commonDivisor_7 : decode cX8_commonDivisor 7 = .ok (.iload_n 0, 1) := by decide +kernel
theorem dX8_commonDivisor_8 : decode cX8_commonDivisor 8 = .ok (.iload_n 2, 1) := by decide +kernel
theorem dX8_commonDivisor_9 : decode cX8_commonDivisor 9 = .ok (.irem, 1) := by decide +kernel
theorem dX8_commonDivisor_10 : decode cX8_commonDivisor 10 = .ok (.ifCond .ne 11, 3) := by decide +kernel
theorem dX8_commonDivisor_13 : decode cX8_commonDivisor 13 = .ok (.iload_n 1, 1) := by decide +kernel
theorem dX8_commonDivisor_14 : decode cX8_commonDivisor 14 = .ok (.iload_n 2, 1) := by decide +kernel
theorem dX8_commonDivisor_15 : decode cX8_commonDivisor 15 = .ok (.irem, 1) := by decide +kernel
theorem dX8_commonDivisor_16 : decode cX8_commonDivisor 16 = .ok (.ifCond .ne 5, 3) := by decide +kernel
theorem dX8_commonDivisor_19 : decode cX8_commonDivisor 19 = .ok (.iload_n 2, 1) := by decide +kernel
theorem dX8_commonDivisor_20 : decode cX8_commonDivisor 20 = .ok (.ireturn, 1) := by decide +kernel
theorem dX8_commonDivisor_21 : decode cX8_commonDivisor 21 = .ok (.iinc 2 (-1), 3) := by decide +kernel
theorem dX8_commonDivisor_24 : decode cX8_commonDivisor 24 = .ok (.goto (-22), 3) := by decide +kernel
theorem dX8_commonDivisor_27 : decode cX8_commonDivisor 27 = .ok (.iconst 1, 1) := by decide +kernel
theorem dX8_commonDivisor_28 : decode cX8_commonDivisor 28 = .ok (.ireturn, 1) := by decide +kernel
