theorem dX12_keepsRow_0 : decode cX12_keepsRow 0 = .ok (.iconst 0, 1) := by decide +kernel
theorem dX12_keepsRow_1 : decode cX12_keepsRow 1 = .ok (.istore_n 1, 1) := by decide +kernel
theorem dX12_keepsRow_2 : decode cX12_keepsRow 2 = .ok (.iload_n 1, 1) := by decide +kernel
theorem dX12_keepsRow_3 : decode cX12_keepsRow 3 = .ok (.sipush 260, 3) := by decide +kernel
theorem dX12_keepsRow_6 : decode cX12_keepsRow 6 = .ok (.if_icmp .ge 21, 3) := by decide +kernel
theorem dX12_keepsRow_9 : decode cX12_keepsRow 9 = .ok (.aload_n 0, 1) := by decide +kernel
theorem dX12_keepsRow_10 : decode cX12_keepsRow 10 = .ok (.getfield 107, 3) := by decide +kernel
theorem dX12_keepsRow_13 : decode cX12_keepsRow 13 = .ok (.iload_n 1, 1) := by decide +kernel
theorem dX12_keepsRow_14 : decode cX12_keepsRow 14 = .ok (.aload_n 0, 1) := by decide +kernel
theorem dX12_keepsRow_15 : decode cX12_keepsRow 15 = .ok (.getfield 110, 3) := by decide +kernel
theorem dX12_keepsRow_18 : decode cX12_keepsRow 18 = .ok (.iload_n 1, 1) := by decide +kernel
theorem dX12_keepsRow_19 : decode cX12_keepsRow 19 = .ok (.iaload, 1) := by decide +kernel
theorem dX12_keepsRow_20 : decode cX12_keepsRow 20 = .ok (.iastore, 1) := by decide +kernel
theorem dX12_keepsRow_21 : decode cX12_keepsRow 21 = .ok (.iinc 1 1, 3) := by decide +kernel
theorem dX12_keepsRow_24 : decode cX12_keepsRow 24 = .ok (.goto (-22), 3) := by decide +kernel
theorem dX12_keepsRow_27 : decode cX12_keepsRow 27 = .ok (.return_, 1) := by decide +kernel
theorem dX12_copies_0 : decode cX12_copies 0 = .ok (.iconst 0, 1) := by decide +kernel
theorem dX12_copies_1 : decode cX12_copies 1 = .ok (.istore_n 1, 1) := by decide +kernel
theorem dX12_copies_2 : decode cX12_copies 2 = .ok (.iload_n 1, 1) := by decide +kernel
theorem dX12_copies_3 : decode cX12_copies 3 = .ok (.sipush 260, 3) := by decide +kernel
theorem dX12_copies_6 : decode cX12_copies 6 = .ok (.if_icmp .ge 21, 3) := by decide +kernel
theorem dX12_copies_9 : decode cX12_copies 9 = .ok (.aload_n 0, 1) := by decide +kernel
theorem dX12_copies_10 : decode cX12_copies 10 = .ok (.getfield 110, 3) := by decide +kernel
theorem dX12_copies_13 : decode cX12_copies 13 = .ok (.iload_n 1, 1) := by decide +kernel
theorem dX12_copies_14 : decode cX12_copies 14 = .ok (.aload_n 0, 1) := by decide +kernel
theorem dX12_copies_15 : decode cX12_copies 15 = .ok (.getfield 107, 3) := by decide +kernel
theorem dX12_copies_18 : decode cX12_copies 18 = .ok (.iload_n 1, 1) := by decide +kernel
theorem dX12_copies_19 : decode cX12_copies 19 = .ok (.iaload, 1) := by decide +kernel
theorem dX12_copies_20 : decode cX12_copies 20 = .ok (.iastore, 1) := by decide +kernel
theorem dX12_copies_21 : decode cX12_copies 21 = .ok (.iinc 1 1, 3) := by decide +kernel
theorem dX12_copies_24 : decode cX12_copies 24 = .ok (.goto (-22), 3) := by decide +kernel
theorem dX12_copies_27 : decode cX12_copies 27 = .ok (.aload_n 0, 1) := by decide +kernel
theorem dX12_copies_28 : decode cX12_copies 28 = .ok (.invokevirtual 300, 3) := by decide +kernel
theorem dX12_copies_31 : decode cX12_copies 31 = .ok (.return_, 1) := by decide +kernel
theorem dX12_mixed_0 : decode cX12_mixed 0 = .ok (.iload_n 0, 1) := by decide +kernel
theorem dX12_mixed_1 : decode cX12_mixed 1 = .ok (.iload_n 1, 1) := by decide +kernel
theorem dX12_mixed_2 : decode cX12_mixed 2 = .ok (.ixor, 1) := by decide +kernel
theorem dX12_mixed_3 : decode cX12_mixed 3 = .ok (.ldc_w 309, 3) := by decide +kernel
theorem dX12_mixed_6 : decode cX12_mixed 6 = .ok (.imul, 1) := by decide +kernel
theorem dX12_mixed_7 : decode cX12_mixed 7 = .ok (.sipush 12345, 3) := by decide +kernel
theorem dX12_mixed_10 : decode cX12_mixed 10 = .ok (.iadd, 1) := by decide +kernel
theorem dX12_mixed_11 : decode cX12_mixed 11 = .ok (.istore_n 2, 1) := by decide +kernel
theorem dX12_mixed_12 : decode cX12_mixed 12 = .ok (.iload_n 2, 1) := by decide +kernel
theorem dX12_mixed_13 : decode cX12_mixed 13 = .ok (.iload_n 2, 1) := by decide +kernel
theorem dX12_mixed_14 : decode cX12_mixed 14 = .ok (.bipush 15, 2) := by decide +kernel
theorem dX12_mixed_16 : decode cX12_mixed 16 = .ok (.iushr, 1) := by decide +kernel
theorem dX12_mixed_17 : decode cX12_mixed 17 = .ok (.ixor, 1) := by decide +kernel
theorem dX12_mixed_18 : decode cX12_mixed 18 = .ok (.ireturn, 1) := by decide +kernel
theorem dX12_lotOf_0 : decode cX12_lotOf 0 = .ok (.aload_n 0, 1) := by decide +kernel
theorem dX12_lotOf_1 : decode cX12_lotOf 1 = .ok (.getfield 303, 3) := by decide +kernel
theorem dX12_lotOf_4 : decode cX12_lotOf 4 = .ok (.bipush 47, 2) := by decide +kernel
theorem dX12_lotOf_6 : decode cX12_lotOf 6 = .ok (.invokestatic 310, 3) := by decide +kernel
theorem dX12_lotOf_9 : decode cX12_lotOf 9 = .ok (.iload_n 1, 1) := by decide +kernel
theorem dX12_lotOf_10 : decode cX12_lotOf 10 = .ok (.invokestatic 310, 3) := by decide +kernel
theorem dX12_lotOf_13 : decode cX12_lotOf 13 = .ok (.iconst 1, 1) := by decide +kernel
theorem dX12_lotOf_14 : decode cX12_lotOf 14 = .ok (.iushr, 1) := by decide +kernel
theorem dX12_lotOf_15 : decode cX12_lotOf 15 = .ok (.iload_n 2, 1) := by decide +kernel
theorem dX12_lotOf_16 : decode cX12_lotOf 16 = .ok (.irem, 1) := by decide +kernel
theorem dX12_lotOf_17 : decode cX12_lotOf 17 = .ok (.ireturn, 1) := by decide +kernel
theorem dX12_held_0 : decode cX12_held 0 = .ok (.iload_n 0, 1) := by decide +kernel
theorem dX12_held_1 : decode cX12_held 1 = .ok (.iload_n 1, 1) := by decide +kernel
theorem dX12_held_2 : decode cX12_held 2 = .ok (.if_icmp .ge 7, 3) := by decide +kernel
theorem dX12_held_5 : decode cX12_held 5 = .ok (.iload_n 1, 1) := by decide +kernel
theorem dX12_held_6 : decode cX12_held 6 = .ok (.goto 13, 3) := by decide +kernel
theorem dX12_held_9 : decode cX12_held 9 = .ok (.iload_n 0, 1) := by decide +kernel
theorem dX12_held_10 : decode cX12_held 10 = .ok (.iload_n 2, 1) := by decide +kernel
theorem dX12_held_11 : decode cX12_held 11 = .ok (.if_icmp .le 7, 3) := by decide +kernel
theorem dX12_held_14 : decode cX12_held 14 = .ok (.iload_n 2, 1) := by decide +kernel
theorem dX12_held_15 : decode cX12_held 15 = .ok (.goto 4, 3) := by decide +kernel
theorem dX12_held_18 : decode cX12_held 18 = .ok (.iload_n 0, 1) := by decide +kernel
theorem dX12_held_19 : decode cX12_held 19 = .ok (.ireturn, 1) := by decide +kernel
theorem dX12_tells_0 : decode cX12_tells 0 = .ok (.iconst 5, 1) := by decide +kernel
theorem dX12_tells_1 : decode cX12_tells 1 = .ok (.aload_n 0, 1) := by decide +kernel
theorem dX12_tells_2 : decode cX12_tells 2 = .ok (.getfield 218, 3) := by decide +kernel
theorem dX12_tells_5 : decode cX12_tells 5 = .ok (.imul, 1) := by decide +kernel
theorem dX12_tells_6 : decode cX12_tells 6 = .ok (.iload_n 1, 1) := by decide +kernel
theorem dX12_tells_7 : decode cX12_tells 7 = .ok (.iadd, 1) := by decide +kernel
theorem dX12_tells_8 : decode cX12_tells 8 = .ok (.istore 5, 2) := by decide +kernel
theorem dX12_tells_10 : decode cX12_tells 10 = .ok (.aload_n 0, 1) := by decide +kernel
theorem dX12_tells_11 : decode cX12_tells 11 = .ok (.getfield 70, 3) := by decide +kernel
theorem dX12_tells_14 : decode cX12_tells 14 = .ok (.iload 5, 2) := by decide +kernel
theorem dX12_tells_16 : decode cX12_tells 16 = .ok (.iaload, 1) := by decide +kernel
theorem dX12_tells_17 : decode cX12_tells 17 = .ok (.aload_n 0, 1) := by decide +kernel
theorem dX12_tells_18 : decode cX12_tells 18 = .ok (.getfield 73, 3) := by decide +kernel
theorem dX12_tells_21 : decode cX12_tells 21 = .ok (.iload 5, 2) := by decide +kernel
theorem dX12_tells_23 : decode cX12_tells 23 = .ok (.iaload, 1) := by decide +kernel
theorem dX12_tells_24 : decode cX12_tells 24 = .ok (.if_icmp .ne 11, 3) := by decide +kernel
theorem dX12_tells_27 : decode cX12_tells 27 = .ok (.iload_n 2, 1) := by decide +kernel
theorem dX12_tells_28 : decode cX12_tells 28 = .ok (.iload_n 3, 1) := by decide +kernel
theorem dX12_tells_29 : decode cX12_tells 29 = .ok (.iload 4, 2) := by decide +kernel
theorem dX12_tells_31 : decode cX12_tells 31 = .ok (.invokestatic 313, 3) := by decide +kernel
theorem dX12_tells_34 : decode cX12_tells 34 = .ok (.ireturn, 1) := by decide +kernel
theorem dX12_tells_35 : decode cX12_tells 35 = .ok (.aload_n 0, 1) := by decide +kernel
theorem dX12_tells_36 : decode cX12_tells 36 = .ok (.iconst 0, 1) := by decide +kernel
theorem dX12_tells_37 : decode cX12_tells 37 = .ok (.putfield 289, 3) := by decide +kernel
theorem dX12_tells_40 : decode cX12_tells 40 = .ok (.aload_n 0, 1) := by decide +kernel
theorem dX12_tells_41 : decode cX12_tells 41 = .ok (.getfield 70, 3) := by decide +kernel
theorem dX12_tells_44 : decode cX12_tells 44 = .ok (.iload 5, 2) := by decide +kernel
theorem dX12_tells_46 : decode cX12_tells 46 = .ok (.iaload, 1) := by decide +kernel
theorem dX12_tells_47 : decode cX12_tells 47 = .ok (.istore 6, 2) := by decide +kernel
theorem dX12_tells_49 : decode cX12_tells 49 = .ok (.iload 6, 2) := by decide +kernel
theorem dX12_tells_51 : decode cX12_tells 51 = .ok (.aload_n 0, 1) := by decide +kernel
theorem dX12_tells_52 : decode cX12_tells 52 = .ok (.getfield 73, 3) := by decide +kernel
theorem dX12_tells_55 : decode cX12_tells 55 = .ok (.iload 5, 2) := by decide +kernel
theorem dX12_tells_57 : decode cX12_tells 57 = .ok (.iaload, 1) := by decide +kernel
theorem dX12_tells_58 : decode cX12_tells 58 = .ok (.if_icmp .ge 124, 3) := by decide +kernel
theorem dX12_tells_61 : decode cX12_tells 61 = .ok (.aload_n 0, 1) := by decide +kernel
theorem dX12_tells_62 : decode cX12_tells 62 = .ok (.getfield 76, 3) := by decide +kernel
theorem dX12_tells_65 : decode cX12_tells 65 = .ok (.iload 6, 2) := by decide +kernel
theorem dX12_tells_67 : decode cX12_tells 67 = .ok (.baload, 1) := by decide +kernel
theorem dX12_tells_68 : decode cX12_tells 68 = .ok (.ifCond .eq 68, 3) := by decide +kernel
theorem dX12_tells_71 : decode cX12_tells 71 = .ok (.aload_n 0, 1) := by decide +kernel
theorem dX12_tells_72 : decode cX12_tells 72 = .ok (.aload_n 0, 1) := by decide +kernel
theorem dX12_tells_73 : decode cX12_tells 73 = .ok (.getfield 80, 3) := by decide +kernel
theorem dX12_tells_76 : decode cX12_tells 76 = .ok (.iload 6, 2) := by decide +kernel
theorem dX12_tells_78 : decode cX12_tells 78 = .ok (.iaload, 1) := by decide +kernel
theorem dX12_tells_79 : decode cX12_tells 79 = .ok (.aload_n 0, 1) := by decide +kernel
theorem dX12_tells_80 : decode cX12_tells 80 = .ok (.getfield 83, 3) := by decide +kernel
theorem dX12_tells_83 : decode cX12_tells 83 = .ok (.iload 6, 2) := by decide +kernel
theorem dX12_tells_85 : decode cX12_tells 85 = .ok (.iaload, 1) := by decide +kernel
theorem dX12_tells_86 : decode cX12_tells 86 = .ok (.invokevirtual 316, 3) := by decide +kernel
theorem dX12_tells_89 : decode cX12_tells 89 = .ok (.istore 7, 2) := by decide +kernel
theorem dX12_tells_91 : decode cX12_tells 91 = .ok (.aload_n 0, 1) := by decide +kernel
theorem dX12_tells_92 : decode cX12_tells 92 = .ok (.aload_n 0, 1) := by decide +kernel
theorem dX12_tells_93 : decode cX12_tells 93 = .ok (.getfield 83, 3) := by decide +kernel
theorem dX12_tells_96 : decode cX12_tells 96 = .ok (.iload 6, 2) := by decide +kernel
theorem dX12_tells_98 : decode cX12_tells 98 = .ok (.iaload, 1) := by decide +kernel
theorem dX12_tells_99 : decode cX12_tells 99 = .ok (.aload_n 0, 1) := by decide +kernel
theorem dX12_tells_100 : decode cX12_tells 100 = .ok (.getfield 86, 3) := by decide +kernel
theorem dX12_tells_103 : decode cX12_tells 103 = .ok (.iload 6, 2) := by decide +kernel
theorem dX12_tells_105 : decode cX12_tells 105 = .ok (.iaload, 1) := by decide +kernel
theorem dX12_tells_106 : decode cX12_tells 106 = .ok (.invokevirtual 316, 3) := by decide +kernel
theorem dX12_tells_109 : decode cX12_tells 109 = .ok (.istore 8, 2) := by decide +kernel
theorem dX12_tells_111 : decode cX12_tells 111 = .ok (.aload_n 0, 1) := by decide +kernel
theorem dX12_tells_112 : decode cX12_tells 112 = .ok (.getfield 289, 3) := by decide +kernel
theorem dX12_tells_115 : decode cX12_tells 115 = .ok (.ifCond .eq 11, 3) := by decide +kernel
theorem dX12_tells_118 : decode cX12_tells 118 = .ok (.iconst 0, 1) := by decide +kernel
theorem dX12_tells_119 : decode cX12_tells 119 = .ok (.iload_n 3, 1) := by decide +kernel
theorem dX12_tells_120 : decode cX12_tells 120 = .ok (.iload 4, 2) := by decide +kernel
theorem dX12_tells_122 : decode cX12_tells 122 = .ok (.invokestatic 313, 3) := by decide +kernel
theorem dX12_tells_125 : decode cX12_tells 125 = .ok (.ireturn, 1) := by decide +kernel
theorem dX12_tells_126 : decode cX12_tells 126 = .ok (.iload 7, 2) := by decide +kernel
theorem dX12_tells_128 : decode cX12_tells 128 = .ok (.iload 8, 2) := by decide +kernel
theorem dX12_tells_130 : decode cX12_tells 130 = .ok (.if_icmp .lt 6, 3) := by decide +kernel
theorem dX12_tells_133 : decode cX12_tells 133 = .ok (.goto 43, 3) := by decide +kernel
theorem dX12_tells_136 : decode cX12_tells 136 = .ok (.aload_n 0, 1) := by decide +kernel
theorem dX12_tells_137 : decode cX12_tells 137 = .ok (.aload_n 0, 1) := by decide +kernel
theorem dX12_tells_138 : decode cX12_tells 138 = .ok (.getfield 86, 3) := by decide +kernel
theorem dX12_tells_141 : decode cX12_tells 141 = .ok (.iload 6, 2) := by decide +kernel
theorem dX12_tells_143 : decode cX12_tells 143 = .ok (.iaload, 1) := by decide +kernel
theorem dX12_tells_144 : decode cX12_tells 144 = .ok (.aload_n 0, 1) := by decide +kernel
theorem dX12_tells_145 : decode cX12_tells 145 = .ok (.getfield 89, 3) := by decide +kernel
theorem dX12_tells_148 : decode cX12_tells 148 = .ok (.iload 6, 2) := by decide +kernel
theorem dX12_tells_150 : decode cX12_tells 150 = .ok (.iaload, 1) := by decide +kernel
theorem dX12_tells_151 : decode cX12_tells 151 = .ok (.invokevirtual 316, 3) := by decide +kernel
theorem dX12_tells_154 : decode cX12_tells 154 = .ok (.istore 7, 2) := by decide +kernel
theorem dX12_tells_156 : decode cX12_tells 156 = .ok (.aload_n 0, 1) := by decide +kernel
theorem dX12_tells_157 : decode cX12_tells 157 = .ok (.getfield 289, 3) := by decide +kernel
theorem dX12_tells_160 : decode cX12_tells 160 = .ok (.ifCond .eq 7, 3) := by decide +kernel
theorem dX12_tells_163 : decode cX12_tells 163 = .ok (.iconst 0, 1) := by decide +kernel
theorem dX12_tells_164 : decode cX12_tells 164 = .ok (.goto 5, 3) := by decide +kernel
theorem dX12_tells_167 : decode cX12_tells 167 = .ok (.iload 7, 2) := by decide +kernel
theorem dX12_tells_169 : decode cX12_tells 169 = .ok (.iload_n 3, 1) := by decide +kernel
theorem dX12_tells_170 : decode cX12_tells 170 = .ok (.iload 4, 2) := by decide +kernel
theorem dX12_tells_172 : decode cX12_tells 172 = .ok (.invokestatic 313, 3) := by decide +kernel
theorem dX12_tells_175 : decode cX12_tells 175 = .ok (.ireturn, 1) := by decide +kernel
theorem dX12_tells_176 : decode cX12_tells 176 = .ok (.iinc 6 1, 3) := by decide +kernel
theorem dX12_tells_179 : decode cX12_tells 179 = .ok (.goto (-130), 3) := by decide +kernel
theorem dX12_tells_182 : decode cX12_tells 182 = .ok (.iconst 0, 1) := by decide +kernel
theorem dX12_tells_183 : decode cX12_tells 183 = .ok (.ireturn, 1) := by decide +kernel
theorem dX12_clears_0 : decode cX12_clears 0 = .ok (.iconst 0, 1) := by decide +kernel
theorem dX12_clears_1 : decode cX12_clears 1 = .ok (.istore_n 1, 1) := by decide +kernel
theorem dX12_clears_2 : decode cX12_clears 2 = .ok (.iload_n 1, 1) := by decide +kernel
theorem dX12_clears_3 : decode cX12_clears 3 = .ok (.bipush 11, 2) := by decide +kernel
theorem dX12_clears_5 : decode cX12_clears 5 = .ok (.if_icmp .ge 16, 3) := by decide +kernel
theorem dX12_clears_8 : decode cX12_clears 8 = .ok (.aload_n 0, 1) := by decide +kernel
theorem dX12_clears_9 : decode cX12_clears 9 = .ok (.getfield 101, 3) := by decide +kernel
theorem dX12_clears_12 : decode cX12_clears 12 = .ok (.iload_n 1, 1) := by decide +kernel
theorem dX12_clears_13 : decode cX12_clears 13 = .ok (.iconst 0, 1) := by decide +kernel
theorem dX12_clears_14 : decode cX12_clears 14 = .ok (.iastore, 1) := by decide +kernel
theorem dX12_clears_15 : decode cX12_clears 15 = .ok (.iinc 1 1, 3) := by decide +kernel
theorem dX12_clears_18 : decode cX12_clears 18 = .ok (.goto (-16), 3) := by decide +kernel
theorem dX12_clears_21 : decode cX12_clears 21 = .ok (.return_, 1) := by decide +kernel
theorem dX12_windOf_0 : decode cX12_windOf 0 = .ok (.aload_n 0, 1) := by decide +kernel
theorem dX12_windOf_1 : decode cX12_windOf 1 = .ok (.invokevirtual 319, 3) := by decide +kernel
theorem dX12_windOf_4 : decode cX12_windOf 4 = .ok (.aload_n 0, 1) := by decide +kernel
theorem dX12_windOf_5 : decode cX12_windOf 5 = .ok (.getfield 101, 3) := by decide +kernel
theorem dX12_windOf_8 : decode cX12_windOf 8 = .ok (.iconst 0, 1) := by decide +kernel
theorem dX12_windOf_9 : decode cX12_windOf 9 = .ok (.iload_n 2, 1) := by decide +kernel
theorem dX12_windOf_10 : decode cX12_windOf 10 = .ok (.iastore, 1) := by decide +kernel
theorem dX12_windOf_11 : decode cX12_windOf 11 = .ok (.aload_n 0, 1) := by decide +kernel
theorem dX12_windOf_12 : decode cX12_windOf 12 = .ok (.getfield 101, 3) := by decide +kernel
theorem dX12_windOf_15 : decode cX12_windOf 15 = .ok (.iconst 1, 1) := by decide +kernel
theorem dX12_windOf_16 : decode cX12_windOf 16 = .ok (.iload_n 1, 1) := by decide +kernel
theorem dX12_windOf_17 : decode cX12_windOf 17 = .ok (.iastore, 1) := by decide +kernel
theorem dX12_windOf_18 : decode cX12_windOf 18 = .ok (.aload_n 0, 1) := by decide +kernel
theorem dX12_windOf_19 : decode cX12_windOf 19 = .ok (.bipush 9, 2) := by decide +kernel
theorem dX12_windOf_21 : decode cX12_windOf 21 = .ok (.invokevirtual 297, 3) := by decide +kernel
theorem dX12_windOf_24 : decode cX12_windOf 24 = .ok (.istore_n 3, 1) := by decide +kernel
theorem dX12_windOf_25 : decode cX12_windOf 25 = .ok (.aload_n 0, 1) := by decide +kernel
theorem dX12_windOf_26 : decode cX12_windOf 26 = .ok (.iconst 0, 1) := by decide +kernel
theorem dX12_windOf_27 : decode cX12_windOf 27 = .ok (.iconst 0, 1) := by decide +kernel
theorem dX12_windOf_28 : decode cX12_windOf 28 = .ok (.bipush (-99), 2) := by decide +kernel
theorem dX12_windOf_30 : decode cX12_windOf 30 = .ok (.bipush 99, 2) := by decide +kernel
theorem dX12_windOf_32 : decode cX12_windOf 32 = .ok (.invokevirtual 322, 3) := by decide +kernel
theorem dX12_windOf_35 : decode cX12_windOf 35 = .ok (.aload_n 0, 1) := by decide +kernel
theorem dX12_windOf_36 : decode cX12_windOf 36 = .ok (.bipush 8, 2) := by decide +kernel
theorem dX12_windOf_38 : decode cX12_windOf 38 = .ok (.iload_n 2, 1) := by decide +kernel
theorem dX12_windOf_39 : decode cX12_windOf 39 = .ok (.imul, 1) := by decide +kernel
theorem dX12_windOf_40 : decode cX12_windOf 40 = .ok (.iload_n 1, 1) := by decide +kernel
theorem dX12_windOf_41 : decode cX12_windOf 41 = .ok (.iadd, 1) := by decide +kernel
theorem dX12_windOf_42 : decode cX12_windOf 42 = .ok (.iconst 2, 1) := by decide +kernel
theorem dX12_windOf_43 : decode cX12_windOf 43 = .ok (.iload_n 3, 1) := by decide +kernel
theorem dX12_windOf_44 : decode cX12_windOf 44 = .ok (.imul, 1) := by decide +kernel
theorem dX12_windOf_45 : decode cX12_windOf 45 = .ok (.iconst 1, 1) := by decide +kernel
theorem dX12_windOf_46 : decode cX12_windOf 46 = .ok (.iadd, 1) := by decide +kernel
theorem dX12_windOf_47 : decode cX12_windOf 47 = .ok (.invokevirtual 326, 3) := by decide +kernel
theorem dX12_windOf_50 : decode cX12_windOf 50 = .ok (.iadd, 1) := by decide +kernel
theorem dX12_windOf_51 : decode cX12_windOf 51 = .ok (.iload_n 3, 1) := by decide +kernel
theorem dX12_windOf_52 : decode cX12_windOf 52 = .ok (.isub, 1) := by decide +kernel
theorem dX12_windOf_53 : decode cX12_windOf 53 = .ok (.ireturn, 1) := by decide +kernel
theorem dX12_meanOf_0 : decode cX12_meanOf 0 = .ok (.iconst 0, 1) := by decide +kernel
theorem dX12_meanOf_1 : decode cX12_meanOf 1 = .ok (.istore_n 2, 1) := by decide +kernel
theorem dX12_meanOf_2 : decode cX12_meanOf 2 = .ok (.iconst 0, 1) := by decide +kernel
theorem dX12_meanOf_3 : decode cX12_meanOf 3 = .ok (.istore_n 3, 1) := by decide +kernel
theorem dX12_meanOf_4 : decode cX12_meanOf 4 = .ok (.iload_n 3, 1) := by decide +kernel
theorem dX12_meanOf_5 : decode cX12_meanOf 5 = .ok (.iconst 5, 1) := by decide +kernel
theorem dX12_meanOf_6 : decode cX12_meanOf 6 = .ok (.if_icmp .ge 20, 3) := by decide +kernel
theorem dX12_meanOf_9 : decode cX12_meanOf 9 = .ok (.iload_n 2, 1) := by decide +kernel
theorem dX12_meanOf_10 : decode cX12_meanOf 10 = .ok (.aload_n 0, 1) := by decide +kernel
theorem dX12_meanOf_11 : decode cX12_meanOf 11 = .ok (.iload_n 3, 1) := by decide +kernel
theorem dX12_meanOf_12 : decode cX12_meanOf 12 = .ok (.iload_n 1, 1) := by decide +kernel
theorem dX12_meanOf_13 : decode cX12_meanOf 13 = .ok (.iload_n 3, 1) := by decide +kernel
theorem dX12_meanOf_14 : decode cX12_meanOf 14 = .ok (.iadd, 1) := by decide +kernel
theorem dX12_meanOf_15 : decode cX12_meanOf 15 = .ok (.invokevirtual 329, 3) := by decide +kernel
theorem dX12_meanOf_18 : decode cX12_meanOf 18 = .ok (.iadd, 1) := by decide +kernel
theorem dX12_meanOf_19 : decode cX12_meanOf 19 = .ok (.istore_n 2, 1) := by decide +kernel
theorem dX12_meanOf_20 : decode cX12_meanOf 20 = .ok (.iinc 3 1, 3) := by decide +kernel
theorem dX12_meanOf_23 : decode cX12_meanOf 23 = .ok (.goto (-19), 3) := by decide +kernel
theorem dX12_meanOf_26 : decode cX12_meanOf 26 = .ok (.iload_n 2, 1) := by decide +kernel
theorem dX12_meanOf_27 : decode cX12_meanOf 27 = .ok (.iconst 5, 1) := by decide +kernel
theorem dX12_meanOf_28 : decode cX12_meanOf 28 = .ok (.idiv, 1) := by decide +kernel
theorem dX12_meanOf_29 : decode cX12_meanOf 29 = .ok (.ireturn, 1) := by decide +kernel
theorem dX12_trueOf_0 : decode cX12_trueOf 0 = .ok (.iconst 0, 1) := by decide +kernel
theorem dX12_trueOf_1 : decode cX12_trueOf 1 = .ok (.istore_n 2, 1) := by decide +kernel
theorem dX12_trueOf_2 : decode cX12_trueOf 2 = .ok (.iconst 0, 1) := by decide +kernel
theorem dX12_trueOf_3 : decode cX12_trueOf 3 = .ok (.istore_n 3, 1) := by decide +kernel
theorem dX12_trueOf_4 : decode cX12_trueOf 4 = .ok (.iconst 0, 1) := by decide +kernel
theorem dX12_trueOf_5 : decode cX12_trueOf 5 = .ok (.istore 4, 2) := by decide +kernel
theorem dX12_trueOf_7 : decode cX12_trueOf 7 = .ok (.iload 4, 2) := by decide +kernel
theorem dX12_trueOf_9 : decode cX12_trueOf 9 = .ok (.iconst 5, 1) := by decide +kernel
theorem dX12_trueOf_10 : decode cX12_trueOf 10 = .ok (.if_icmp .ge 42, 3) := by decide +kernel
theorem dX12_trueOf_13 : decode cX12_trueOf 13 = .ok (.iload_n 2, 1) := by decide +kernel
theorem dX12_trueOf_14 : decode cX12_trueOf 14 = .ok (.aload_n 0, 1) := by decide +kernel
theorem dX12_trueOf_15 : decode cX12_trueOf 15 = .ok (.iconst 3, 1) := by decide +kernel
theorem dX12_trueOf_16 : decode cX12_trueOf 16 = .ok (.iload 4, 2) := by decide +kernel
theorem dX12_trueOf_18 : decode cX12_trueOf 18 = .ok (.iadd, 1) := by decide +kernel
theorem dX12_trueOf_19 : decode cX12_trueOf 19 = .ok (.invokevirtual 297, 3) := by decide +kernel
theorem dX12_trueOf_22 : decode cX12_trueOf 22 = .ok (.aload_n 0, 1) := by decide +kernel
theorem dX12_trueOf_23 : decode cX12_trueOf 23 = .ok (.iload 4, 2) := by decide +kernel
theorem dX12_trueOf_25 : decode cX12_trueOf 25 = .ok (.iload_n 1, 1) := by decide +kernel
theorem dX12_trueOf_26 : decode cX12_trueOf 26 = .ok (.iload 4, 2) := by decide +kernel
theorem dX12_trueOf_28 : decode cX12_trueOf 28 = .ok (.iadd, 1) := by decide +kernel
theorem dX12_trueOf_29 : decode cX12_trueOf 29 = .ok (.invokevirtual 329, 3) := by decide +kernel
theorem dX12_trueOf_32 : decode cX12_trueOf 32 = .ok (.imul, 1) := by decide +kernel
theorem dX12_trueOf_33 : decode cX12_trueOf 33 = .ok (.iadd, 1) := by decide +kernel
theorem dX12_trueOf_34 : decode cX12_trueOf 34 = .ok (.istore_n 2, 1) := by decide +kernel
theorem dX12_trueOf_35 : decode cX12_trueOf 35 = .ok (.iload_n 3, 1) := by decide +kernel
theorem dX12_trueOf_36 : decode cX12_trueOf 36 = .ok (.aload_n 0, 1) := by decide +kernel
theorem dX12_trueOf_37 : decode cX12_trueOf 37 = .ok (.iconst 3, 1) := by decide +kernel
theorem dX12_trueOf_38 : decode cX12_trueOf 38 = .ok (.iload 4, 2) := by decide +kernel
theorem dX12_trueOf_40 : decode cX12_trueOf 40 = .ok (.iadd, 1) := by decide +kernel
theorem dX12_trueOf_41 : decode cX12_trueOf 41 = .ok (.invokevirtual 297, 3) := by decide +kernel
theorem dX12_trueOf_44 : decode cX12_trueOf 44 = .ok (.iadd, 1) := by decide +kernel
theorem dX12_trueOf_45 : decode cX12_trueOf 45 = .ok (.istore_n 3, 1) := by decide +kernel
theorem dX12_trueOf_46 : decode cX12_trueOf 46 = .ok (.iinc 4 1, 3) := by decide +kernel
theorem dX12_trueOf_49 : decode cX12_trueOf 49 = .ok (.goto (-42), 3) := by decide +kernel
theorem dX12_trueOf_52 : decode cX12_trueOf 52 = .ok (.iload_n 3, 1) := by decide +kernel
theorem dX12_trueOf_53 : decode cX12_trueOf 53 = .ok (.ifCond .ne 7, 3) := by decide +kernel
theorem dX12_trueOf_56 : decode cX12_trueOf 56 = .ok (.iconst 0, 1) := by decide +kernel
theorem dX12_trueOf_57 : decode cX12_trueOf 57 = .ok (.goto 6, 3) := by decide +kernel
theorem dX12_trueOf_60 : decode cX12_trueOf 60 = .ok (.iload_n 2, 1) := by decide +kernel
theorem dX12_trueOf_61 : decode cX12_trueOf 61 = .ok (.iload_n 3, 1) := by decide +kernel
theorem dX12_trueOf_62 : decode cX12_trueOf 62 = .ok (.idiv, 1) := by decide +kernel
theorem dX12_trueOf_63 : decode cX12_trueOf 63 = .ok (.ireturn, 1) := by decide +kernel
theorem dX12_setsJump_0 : decode cX12_setsJump 0 = .ok (.aload_n 0, 1) := by decide +kernel
theorem dX12_setsJump_1 : decode cX12_setsJump 1 = .ok (.iload_n 1, 1) := by decide +kernel
theorem dX12_setsJump_2 : decode cX12_setsJump 2 = .ok (.putfield 332, 3) := by decide +kernel
theorem dX12_setsJump_5 : decode cX12_setsJump 5 = .ok (.aload_n 0, 1) := by decide +kernel
theorem dX12_setsJump_6 : decode cX12_setsJump 6 = .ok (.iload_n 3, 1) := by decide +kernel
theorem dX12_setsJump_7 : decode cX12_setsJump 7 = .ok (.putfield 335, 3) := by decide +kernel
theorem dX12_setsJump_10 : decode cX12_setsJump 10 = .ok (.aload_n 0, 1) := by decide +kernel
theorem dX12_setsJump_11 : decode cX12_setsJump 11 = .ok (.iload 4, 2) := by decide +kernel
theorem dX12_setsJump_13 : decode cX12_setsJump 13 = .ok (.putfield 338, 3) := by decide +kernel
theorem dX12_setsJump_16 : decode cX12_setsJump 16 = .ok (.aload_n 0, 1) := by decide +kernel
theorem dX12_setsJump_17 : decode cX12_setsJump 17 = .ok (.iload 5, 2) := by decide +kernel
theorem dX12_setsJump_19 : decode cX12_setsJump 19 = .ok (.putfield 341, 3) := by decide +kernel
theorem dX12_setsJump_22 : decode cX12_setsJump 22 = .ok (.aload_n 0, 1) := by decide +kernel
theorem dX12_setsJump_23 : decode cX12_setsJump 23 = .ok (.aload_n 0, 1) := by decide +kernel
theorem dX12_setsJump_24 : decode cX12_setsJump 24 = .ok (.iload_n 2, 1) := by decide +kernel
theorem dX12_setsJump_25 : decode cX12_setsJump 25 = .ok (.invokevirtual 344, 3) := by decide +kernel
theorem dX12_setsJump_28 : decode cX12_setsJump 28 = .ok (.putfield 347, 3) := by decide +kernel
theorem dX12_setsJump_31 : decode cX12_setsJump 31 = .ok (.aload_n 0, 1) := by decide +kernel
theorem dX12_setsJump_32 : decode cX12_setsJump 32 = .ok (.aload_n 0, 1) := by decide +kernel
theorem dX12_setsJump_33 : decode cX12_setsJump 33 = .ok (.iload_n 2, 1) := by decide +kernel
theorem dX12_setsJump_34 : decode cX12_setsJump 34 = .ok (.invokevirtual 350, 3) := by decide +kernel
theorem dX12_setsJump_37 : decode cX12_setsJump 37 = .ok (.putfield 353, 3) := by decide +kernel
theorem dX12_setsJump_40 : decode cX12_setsJump 40 = .ok (.aload_n 0, 1) := by decide +kernel
theorem dX12_setsJump_41 : decode cX12_setsJump 41 = .ok (.iconst 0, 1) := by decide +kernel
theorem dX12_setsJump_42 : decode cX12_setsJump 42 = .ok (.putfield 356, 3) := by decide +kernel
theorem dX12_setsJump_45 : decode cX12_setsJump 45 = .ok (.aload_n 0, 1) := by decide +kernel
theorem dX12_setsJump_46 : decode cX12_setsJump 46 = .ok (.iconst 0, 1) := by decide +kernel
theorem dX12_setsJump_47 : decode cX12_setsJump 47 = .ok (.putfield 359, 3) := by decide +kernel
theorem dX12_setsJump_50 : decode cX12_setsJump 50 = .ok (.aload_n 0, 1) := by decide +kernel
theorem dX12_setsJump_51 : decode cX12_setsJump 51 = .ok (.invokevirtual 362, 3) := by decide +kernel
theorem dX12_setsJump_54 : decode cX12_setsJump 54 = .ok (.return_, 1) := by decide +kernel
theorem dX12_jumps_0 : decode cX12_jumps 0 = .ok (.aload_n 0, 1) := by decide +kernel
theorem dX12_jumps_1 : decode cX12_jumps 1 = .ok (.invokevirtual 319, 3) := by decide +kernel
theorem dX12_jumps_4 : decode cX12_jumps 4 = .ok (.aload_n 0, 1) := by decide +kernel
theorem dX12_jumps_5 : decode cX12_jumps 5 = .ok (.getfield 338, 3) := by decide +kernel
theorem dX12_jumps_8 : decode cX12_jumps 8 = .ok (.aload_n 0, 1) := by decide +kernel
theorem dX12_jumps_9 : decode cX12_jumps 9 = .ok (.bipush 12, 2) := by decide +kernel
theorem dX12_jumps_11 : decode cX12_jumps 11 = .ok (.invokevirtual 297, 3) := by decide +kernel
theorem dX12_jumps_14 : decode cX12_jumps 14 = .ok (.isub, 1) := by decide +kernel
theorem dX12_jumps_15 : decode cX12_jumps 15 = .ok (.istore_n 1, 1) := by decide +kernel
theorem dX12_jumps_16 : decode cX12_jumps 16 = .ok (.aload_n 0, 1) := by decide +kernel
theorem dX12_jumps_17 : decode cX12_jumps 17 = .ok (.getfield 101, 3) := by decide +kernel
theorem dX12_jumps_20 : decode cX12_jumps 20 = .ok (.iconst 2, 1) := by decide +kernel
theorem dX12_jumps_21 : decode cX12_jumps 21 = .ok (.aload_n 0, 1) := by decide +kernel
theorem dX12_jumps_22 : decode cX12_jumps 22 = .ok (.getfield 347, 3) := by decide +kernel
theorem dX12_jumps_25 : decode cX12_jumps 25 = .ok (.iastore, 1) := by decide +kernel
theorem dX12_jumps_26 : decode cX12_jumps 26 = .ok (.aload_n 0, 1) := by decide +kernel
theorem dX12_jumps_27 : decode cX12_jumps 27 = .ok (.getfield 101, 3) := by decide +kernel
theorem dX12_jumps_30 : decode cX12_jumps 30 = .ok (.iconst 3, 1) := by decide +kernel
theorem dX12_jumps_31 : decode cX12_jumps 31 = .ok (.aload_n 0, 1) := by decide +kernel
theorem dX12_jumps_32 : decode cX12_jumps 32 = .ok (.getfield 49, 3) := by decide +kernel
theorem dX12_jumps_35 : decode cX12_jumps 35 = .ok (.bipush 8, 2) := by decide +kernel
theorem dX12_jumps_37 : decode cX12_jumps 37 = .ok (.aload_n 0, 1) := by decide +kernel
theorem dX12_jumps_38 : decode cX12_jumps 38 = .ok (.getfield 218, 3) := by decide +kernel
theorem dX12_jumps_41 : decode cX12_jumps 41 = .ok (.imul, 1) := by decide +kernel
theorem dX12_jumps_42 : decode cX12_jumps 42 = .ok (.aload_n 0, 1) := by decide +kernel
theorem dX12_jumps_43 : decode cX12_jumps 43 = .ok (.getfield 332, 3) := by decide +kernel
theorem dX12_jumps_46 : decode cX12_jumps 46 = .ok (.iadd, 1) := by decide +kernel
theorem dX12_jumps_47 : decode cX12_jumps 47 = .ok (.iaload, 1) := by decide +kernel
theorem dX12_jumps_48 : decode cX12_jumps 48 = .ok (.aload_n 0, 1) := by decide +kernel
theorem dX12_jumps_49 : decode cX12_jumps 49 = .ok (.getfield 356, 3) := by decide +kernel
theorem dX12_jumps_52 : decode cX12_jumps 52 = .ok (.isub, 1) := by decide +kernel
theorem dX12_jumps_53 : decode cX12_jumps 53 = .ok (.iastore, 1) := by decide +kernel
theorem dX12_jumps_54 : decode cX12_jumps 54 = .ok (.aload_n 0, 1) := by decide +kernel
theorem dX12_jumps_55 : decode cX12_jumps 55 = .ok (.getfield 101, 3) := by decide +kernel
theorem dX12_jumps_58 : decode cX12_jumps 58 = .ok (.iconst 4, 1) := by decide +kernel
theorem dX12_jumps_59 : decode cX12_jumps 59 = .ok (.aload_n 0, 1) := by decide +kernel
theorem dX12_jumps_60 : decode cX12_jumps 60 = .ok (.getfield 52, 3) := by decide +kernel
theorem dX12_jumps_63 : decode cX12_jumps 63 = .ok (.bipush 8, 2) := by decide +kernel
theorem dX12_jumps_65 : decode cX12_jumps 65 = .ok (.aload_n 0, 1) := by decide +kernel
theorem dX12_jumps_66 : decode cX12_jumps 66 = .ok (.getfield 218, 3) := by decide +kernel
theorem dX12_jumps_69 : decode cX12_jumps 69 = .ok (.imul, 1) := by decide +kernel
theorem dX12_jumps_70 : decode cX12_jumps 70 = .ok (.aload_n 0, 1) := by decide +kernel
theorem dX12_jumps_71 : decode cX12_jumps 71 = .ok (.getfield 332, 3) := by decide +kernel
theorem dX12_jumps_74 : decode cX12_jumps 74 = .ok (.iadd, 1) := by decide +kernel
theorem dX12_jumps_75 : decode cX12_jumps 75 = .ok (.iaload, 1) := by decide +kernel
theorem dX12_jumps_76 : decode cX12_jumps 76 = .ok (.aload_n 0, 1) := by decide +kernel
theorem dX12_jumps_77 : decode cX12_jumps 77 = .ok (.getfield 359, 3) := by decide +kernel
theorem dX12_jumps_80 : decode cX12_jumps 80 = .ok (.isub, 1) := by decide +kernel
theorem dX12_jumps_81 : decode cX12_jumps 81 = .ok (.iastore, 1) := by decide +kernel
theorem dX12_jumps_82 : decode cX12_jumps 82 = .ok (.aload_n 0, 1) := by decide +kernel
theorem dX12_jumps_83 : decode cX12_jumps 83 = .ok (.getfield 101, 3) := by decide +kernel
theorem dX12_jumps_86 : decode cX12_jumps 86 = .ok (.iconst 5, 1) := by decide +kernel
theorem dX12_jumps_87 : decode cX12_jumps 87 = .ok (.aload_n 0, 1) := by decide +kernel
theorem dX12_jumps_88 : decode cX12_jumps 88 = .ok (.getfield 335, 3) := by decide +kernel
theorem dX12_jumps_91 : decode cX12_jumps 91 = .ok (.iastore, 1) := by decide +kernel
theorem dX12_jumps_92 : decode cX12_jumps 92 = .ok (.aload_n 0, 1) := by decide +kernel
theorem dX12_jumps_93 : decode cX12_jumps 93 = .ok (.getfield 101, 3) := by decide +kernel
theorem dX12_jumps_96 : decode cX12_jumps 96 = .ok (.bipush 6, 2) := by decide +kernel
theorem dX12_jumps_98 : decode cX12_jumps 98 = .ok (.aload_n 0, 1) := by decide +kernel
theorem dX12_jumps_99 : decode cX12_jumps 99 = .ok (.bipush 8, 2) := by decide +kernel
theorem dX12_jumps_101 : decode cX12_jumps 101 = .ok (.invokevirtual 297, 3) := by decide +kernel
theorem dX12_jumps_104 : decode cX12_jumps 104 = .ok (.aload_n 0, 1) := by decide +kernel
theorem dX12_jumps_105 : decode cX12_jumps 105 = .ok (.getfield 341, 3) := by decide +kernel
theorem dX12_jumps_108 : decode cX12_jumps 108 = .ok (.imul, 1) := by decide +kernel
theorem dX12_jumps_109 : decode cX12_jumps 109 = .ok (.iastore, 1) := by decide +kernel
theorem dX12_jumps_110 : decode cX12_jumps 110 = .ok (.aload_n 0, 1) := by decide +kernel
theorem dX12_jumps_111 : decode cX12_jumps 111 = .ok (.getfield 101, 3) := by decide +kernel
theorem dX12_jumps_114 : decode cX12_jumps 114 = .ok (.bipush 7, 2) := by decide +kernel
theorem dX12_jumps_116 : decode cX12_jumps 116 = .ok (.iload_n 1, 1) := by decide +kernel
theorem dX12_jumps_117 : decode cX12_jumps 117 = .ok (.iastore, 1) := by decide +kernel
theorem dX12_jumps_118 : decode cX12_jumps 118 = .ok (.aload_n 0, 1) := by decide +kernel
theorem dX12_jumps_119 : decode cX12_jumps 119 = .ok (.aload_n 0, 1) := by decide +kernel
theorem dX12_jumps_120 : decode cX12_jumps 120 = .ok (.iconst 1, 1) := by decide +kernel
theorem dX12_jumps_121 : decode cX12_jumps 121 = .ok (.aload_n 0, 1) := by decide +kernel
theorem dX12_jumps_122 : decode cX12_jumps 122 = .ok (.iconst 0, 1) := by decide +kernel
theorem dX12_jumps_123 : decode cX12_jumps 123 = .ok (.invokevirtual 297, 3) := by decide +kernel
theorem dX12_jumps_126 : decode cX12_jumps 126 = .ok (.iconst 2, 1) := by decide +kernel
theorem dX12_jumps_127 : decode cX12_jumps 127 = .ok (.aload_n 0, 1) := by decide +kernel
theorem dX12_jumps_128 : decode cX12_jumps 128 = .ok (.getfield 347, 3) := by decide +kernel
theorem dX12_jumps_131 : decode cX12_jumps 131 = .ok (.imul, 1) := by decide +kernel
theorem dX12_jumps_132 : decode cX12_jumps 132 = .ok (.iadd, 1) := by decide +kernel
theorem dX12_jumps_133 : decode cX12_jumps 133 = .ok (.iconst 5, 1) := by decide +kernel
theorem dX12_jumps_134 : decode cX12_jumps 134 = .ok (.iload_n 1, 1) := by decide +kernel
theorem dX12_jumps_135 : decode cX12_jumps 135 = .ok (.imul, 1) := by decide +kernel
theorem dX12_jumps_136 : decode cX12_jumps 136 = .ok (.iadd, 1) := by decide +kernel
theorem dX12_jumps_137 : decode cX12_jumps 137 = .ok (.iconst 0, 1) := by decide +kernel
theorem dX12_jumps_138 : decode cX12_jumps 138 = .ok (.sipush 9999, 3) := by decide +kernel
theorem dX12_jumps_141 : decode cX12_jumps 141 = .ok (.invokevirtual 322, 3) := by decide +kernel
theorem dX12_jumps_144 : decode cX12_jumps 144 = .ok (.putfield 365, 3) := by decide +kernel
theorem dX12_jumps_147 : decode cX12_jumps 147 = .ok (.aload_n 0, 1) := by decide +kernel
theorem dX12_jumps_148 : decode cX12_jumps 148 = .ok (.invokevirtual 368, 3) := by decide +kernel
theorem dX12_jumps_151 : decode cX12_jumps 151 = .ok (.return_, 1) := by decide +kernel
theorem dX12_marksAll_0 : decode cX12_marksAll 0 = .ok (.iconst 0, 1) := by decide +kernel
theorem dX12_marksAll_1 : decode cX12_marksAll 1 = .ok (.istore_n 1, 1) := by decide +kernel
theorem dX12_marksAll_2 : decode cX12_marksAll 2 = .ok (.iload_n 1, 1) := by decide +kernel
theorem dX12_marksAll_3 : decode cX12_marksAll 3 = .ok (.aload_n 0, 1) := by decide +kernel
theorem dX12_marksAll_4 : decode cX12_marksAll 4 = .ok (.getfield 61, 3) := by decide +kernel
theorem dX12_marksAll_7 : decode cX12_marksAll 7 = .ok (.aload_n 0, 1) := by decide +kernel
theorem dX12_marksAll_8 : decode cX12_marksAll 8 = .ok (.getfield 218, 3) := by decide +kernel
theorem dX12_marksAll_11 : decode cX12_marksAll 11 = .ok (.iaload, 1) := by decide +kernel
theorem dX12_marksAll_12 : decode cX12_marksAll 12 = .ok (.if_icmp .ge 129, 3) := by decide +kernel
theorem dX12_marksAll_15 : decode cX12_marksAll 15 = .ok (.aload_n 0, 1) := by decide +kernel
theorem dX12_marksAll_16 : decode cX12_marksAll 16 = .ok (.invokevirtual 319, 3) := by decide +kernel
theorem dX12_marksAll_19 : decode cX12_marksAll 19 = .ok (.aload_n 0, 1) := by decide +kernel
theorem dX12_marksAll_20 : decode cX12_marksAll 20 = .ok (.getfield 101, 3) := by decide +kernel
theorem dX12_marksAll_23 : decode cX12_marksAll 23 = .ok (.iconst 2, 1) := by decide +kernel
theorem dX12_marksAll_24 : decode cX12_marksAll 24 = .ok (.aload_n 0, 1) := by decide +kernel
theorem dX12_marksAll_25 : decode cX12_marksAll 25 = .ok (.getfield 347, 3) := by decide +kernel
theorem dX12_marksAll_28 : decode cX12_marksAll 28 = .ok (.iastore, 1) := by decide +kernel
theorem dX12_marksAll_29 : decode cX12_marksAll 29 = .ok (.aload_n 0, 1) := by decide +kernel
theorem dX12_marksAll_30 : decode cX12_marksAll 30 = .ok (.getfield 101, 3) := by decide +kernel
theorem dX12_marksAll_33 : decode cX12_marksAll 33 = .ok (.iconst 5, 1) := by decide +kernel
theorem dX12_marksAll_34 : decode cX12_marksAll 34 = .ok (.aload_n 0, 1) := by decide +kernel
theorem dX12_marksAll_35 : decode cX12_marksAll 35 = .ok (.getfield 335, 3) := by decide +kernel
theorem dX12_marksAll_38 : decode cX12_marksAll 38 = .ok (.iastore, 1) := by decide +kernel
theorem dX12_marksAll_39 : decode cX12_marksAll 39 = .ok (.aload_n 0, 1) := by decide +kernel
theorem dX12_marksAll_40 : decode cX12_marksAll 40 = .ok (.getfield 101, 3) := by decide +kernel
theorem dX12_marksAll_43 : decode cX12_marksAll 43 = .ok (.bipush 8, 2) := by decide +kernel
theorem dX12_marksAll_45 : decode cX12_marksAll 45 = .ok (.aload_n 0, 1) := by decide +kernel
theorem dX12_marksAll_46 : decode cX12_marksAll 46 = .ok (.getfield 365, 3) := by decide +kernel
theorem dX12_marksAll_49 : decode cX12_marksAll 49 = .ok (.iastore, 1) := by decide +kernel
theorem dX12_marksAll_50 : decode cX12_marksAll 50 = .ok (.aload_n 0, 1) := by decide +kernel
theorem dX12_marksAll_51 : decode cX12_marksAll 51 = .ok (.getfield 101, 3) := by decide +kernel
theorem dX12_marksAll_54 : decode cX12_marksAll 54 = .ok (.bipush 9, 2) := by decide +kernel
theorem dX12_marksAll_56 : decode cX12_marksAll 56 = .ok (.aload_n 0, 1) := by decide +kernel
theorem dX12_marksAll_57 : decode cX12_marksAll 57 = .ok (.getfield 64, 3) := by decide +kernel
theorem dX12_marksAll_60 : decode cX12_marksAll 60 = .ok (.bipush 7, 2) := by decide +kernel
theorem dX12_marksAll_62 : decode cX12_marksAll 62 = .ok (.aload_n 0, 1) := by decide +kernel
theorem dX12_marksAll_63 : decode cX12_marksAll 63 = .ok (.getfield 218, 3) := by decide +kernel
theorem dX12_marksAll_66 : decode cX12_marksAll 66 = .ok (.imul, 1) := by decide +kernel
theorem dX12_marksAll_67 : decode cX12_marksAll 67 = .ok (.iload_n 1, 1) := by decide +kernel
theorem dX12_marksAll_68 : decode cX12_marksAll 68 = .ok (.iadd, 1) := by decide +kernel
theorem dX12_marksAll_69 : decode cX12_marksAll 69 = .ok (.iaload, 1) := by decide +kernel
theorem dX12_marksAll_70 : decode cX12_marksAll 70 = .ok (.iastore, 1) := by decide +kernel
theorem dX12_marksAll_71 : decode cX12_marksAll 71 = .ok (.aload_n 0, 1) := by decide +kernel
theorem dX12_marksAll_72 : decode cX12_marksAll 72 = .ok (.getfield 101, 3) := by decide +kernel
theorem dX12_marksAll_75 : decode cX12_marksAll 75 = .ok (.bipush 10, 2) := by decide +kernel
theorem dX12_marksAll_77 : decode cX12_marksAll 77 = .ok (.aload_n 0, 1) := by decide +kernel
theorem dX12_marksAll_78 : decode cX12_marksAll 78 = .ok (.getfield 67, 3) := by decide +kernel
theorem dX12_marksAll_81 : decode cX12_marksAll 81 = .ok (.bipush 7, 2) := by decide +kernel
theorem dX12_marksAll_83 : decode cX12_marksAll 83 = .ok (.aload_n 0, 1) := by decide +kernel
theorem dX12_marksAll_84 : decode cX12_marksAll 84 = .ok (.getfield 218, 3) := by decide +kernel
theorem dX12_marksAll_87 : decode cX12_marksAll 87 = .ok (.imul, 1) := by decide +kernel
theorem dX12_marksAll_88 : decode cX12_marksAll 88 = .ok (.iload_n 1, 1) := by decide +kernel
theorem dX12_marksAll_89 : decode cX12_marksAll 89 = .ok (.iadd, 1) := by decide +kernel
theorem dX12_marksAll_90 : decode cX12_marksAll 90 = .ok (.iaload, 1) := by decide +kernel
theorem dX12_marksAll_91 : decode cX12_marksAll 91 = .ok (.aload_n 0, 1) := by decide +kernel
theorem dX12_marksAll_92 : decode cX12_marksAll 92 = .ok (.getfield 58, 3) := by decide +kernel
theorem dX12_marksAll_95 : decode cX12_marksAll 95 = .ok (.bipush 8, 2) := by decide +kernel
theorem dX12_marksAll_97 : decode cX12_marksAll 97 = .ok (.aload_n 0, 1) := by decide +kernel
theorem dX12_marksAll_98 : decode cX12_marksAll 98 = .ok (.getfield 218, 3) := by decide +kernel
theorem dX12_marksAll_101 : decode cX12_marksAll 101 = .ok (.imul, 1) := by decide +kernel
theorem dX12_marksAll_102 : decode cX12_marksAll 102 = .ok (.aload_n 0, 1) := by decide +kernel
theorem dX12_marksAll_103 : decode cX12_marksAll 103 = .ok (.getfield 332, 3) := by decide +kernel
theorem dX12_marksAll_106 : decode cX12_marksAll 106 = .ok (.iadd, 1) := by decide +kernel
theorem dX12_marksAll_107 : decode cX12_marksAll 107 = .ok (.iaload, 1) := by decide +kernel
theorem dX12_marksAll_108 : decode cX12_marksAll 108 = .ok (.if_icmp .ne 7, 3) := by decide +kernel
theorem dX12_marksAll_111 : decode cX12_marksAll 111 = .ok (.iconst 1, 1) := by decide +kernel
theorem dX12_marksAll_112 : decode cX12_marksAll 112 = .ok (.goto 4, 3) := by decide +kernel
theorem dX12_marksAll_115 : decode cX12_marksAll 115 = .ok (.iconst 0, 1) := by decide +kernel
theorem dX12_marksAll_116 : decode cX12_marksAll 116 = .ok (.iastore, 1) := by decide +kernel
theorem dX12_marksAll_117 : decode cX12_marksAll 117 = .ok (.aload_n 0, 1) := by decide +kernel
theorem dX12_marksAll_118 : decode cX12_marksAll 118 = .ok (.getfield 113, 3) := by decide +kernel
theorem dX12_marksAll_121 : decode cX12_marksAll 121 = .ok (.iload_n 1, 1) := by decide +kernel
theorem dX12_marksAll_122 : decode cX12_marksAll 122 = .ok (.aload_n 0, 1) := by decide +kernel
theorem dX12_marksAll_123 : decode cX12_marksAll 123 = .ok (.iconst 3, 1) := by decide +kernel
theorem dX12_marksAll_124 : decode cX12_marksAll 124 = .ok (.sipush 170, 3) := by decide +kernel
theorem dX12_marksAll_127 : decode cX12_marksAll 127 = .ok (.iconst 0, 1) := by decide +kernel
theorem dX12_marksAll_128 : decode cX12_marksAll 128 = .ok (.sipush 200, 3) := by decide +kernel
theorem dX12_marksAll_131 : decode cX12_marksAll 131 = .ok (.invokevirtual 322, 3) := by decide +kernel
theorem dX12_marksAll_134 : decode cX12_marksAll 134 = .ok (.iastore, 1) := by decide +kernel
theorem dX12_marksAll_135 : decode cX12_marksAll 135 = .ok (.iinc 1 1, 3) := by decide +kernel
theorem dX12_marksAll_138 : decode cX12_marksAll 138 = .ok (.goto (-136), 3) := by decide +kernel
theorem dX12_marksAll_141 : decode cX12_marksAll 141 = .ok (.aload_n 0, 1) := by decide +kernel
theorem dX12_marksAll_142 : decode cX12_marksAll 142 = .ok (.invokevirtual 371, 3) := by decide +kernel
theorem dX12_marksAll_145 : decode cX12_marksAll 145 = .ok (.aload_n 0, 1) := by decide +kernel
theorem dX12_marksAll_146 : decode cX12_marksAll 146 = .ok (.invokevirtual 374, 3) := by decide +kernel
theorem dX12_marksAll_149 : decode cX12_marksAll 149 = .ok (.return_, 1) := by decide +kernel
theorem dX12_setsStyle_0 : decode cX12_setsStyle 0 = .ok (.iconst 0, 1) := by decide +kernel
theorem dX12_setsStyle_1 : decode cX12_setsStyle 1 = .ok (.istore_n 1, 1) := by decide +kernel
theorem dX12_setsStyle_2 : decode cX12_setsStyle 2 = .ok (.iconst 0, 1) := by decide +kernel
theorem dX12_setsStyle_3 : decode cX12_setsStyle 3 = .ok (.istore_n 2, 1) := by decide +kernel
theorem dX12_setsStyle_4 : decode cX12_setsStyle 4 = .ok (.sipush 200, 3) := by decide +kernel
theorem dX12_setsStyle_7 : decode cX12_setsStyle 7 = .ok (.istore_n 3, 1) := by decide +kernel
theorem dX12_setsStyle_8 : decode cX12_setsStyle 8 = .ok (.iconst 0, 1) := by decide +kernel
theorem dX12_setsStyle_9 : decode cX12_setsStyle 9 = .ok (.istore 4, 2) := by decide +kernel
theorem dX12_setsStyle_11 : decode cX12_setsStyle 11 = .ok (.iconst 0, 1) := by decide +kernel
theorem dX12_setsStyle_12 : decode cX12_setsStyle 12 = .ok (.istore 5, 2) := by decide +kernel
theorem dX12_setsStyle_14 : decode cX12_setsStyle 14 = .ok (.iload 5, 2) := by decide +kernel
theorem dX12_setsStyle_16 : decode cX12_setsStyle 16 = .ok (.aload_n 0, 1) := by decide +kernel
theorem dX12_setsStyle_17 : decode cX12_setsStyle 17 = .ok (.getfield 61, 3) := by decide +kernel
theorem dX12_setsStyle_20 : decode cX12_setsStyle 20 = .ok (.aload_n 0, 1) := by decide +kernel
theorem dX12_setsStyle_21 : decode cX12_setsStyle 21 = .ok (.getfield 218, 3) := by decide +kernel
theorem dX12_setsStyle_24 : decode cX12_setsStyle 24 = .ok (.iaload, 1) := by decide +kernel
theorem dX12_setsStyle_25 : decode cX12_setsStyle 25 = .ok (.if_icmp .ge 74, 3) := by decide +kernel
theorem dX12_setsStyle_28 : decode cX12_setsStyle 28 = .ok (.iload 5, 2) := by decide +kernel
theorem dX12_setsStyle_30 : decode cX12_setsStyle 30 = .ok (.aload_n 0, 1) := by decide +kernel
theorem dX12_setsStyle_31 : decode cX12_setsStyle 31 = .ok (.getfield 116, 3) := by decide +kernel
theorem dX12_setsStyle_34 : decode cX12_setsStyle 34 = .ok (.if_icmp .ne 6, 3) := by decide +kernel
theorem dX12_setsStyle_37 : decode cX12_setsStyle 37 = .ok (.goto 56, 3) := by decide +kernel
theorem dX12_setsStyle_40 : decode cX12_setsStyle 40 = .ok (.iinc 1 1, 3) := by decide +kernel
theorem dX12_setsStyle_43 : decode cX12_setsStyle 43 = .ok (.iload_n 2, 1) := by decide +kernel
theorem dX12_setsStyle_44 : decode cX12_setsStyle 44 = .ok (.aload_n 0, 1) := by decide +kernel
theorem dX12_setsStyle_45 : decode cX12_setsStyle 45 = .ok (.getfield 113, 3) := by decide +kernel
theorem dX12_setsStyle_48 : decode cX12_setsStyle 48 = .ok (.iload 5, 2) := by decide +kernel
theorem dX12_setsStyle_50 : decode cX12_setsStyle 50 = .ok (.iaload, 1) := by decide +kernel
theorem dX12_setsStyle_51 : decode cX12_setsStyle 51 = .ok (.iadd, 1) := by decide +kernel
theorem dX12_setsStyle_52 : decode cX12_setsStyle 52 = .ok (.istore_n 2, 1) := by decide +kernel
theorem dX12_setsStyle_53 : decode cX12_setsStyle 53 = .ok (.aload_n 0, 1) := by decide +kernel
theorem dX12_setsStyle_54 : decode cX12_setsStyle 54 = .ok (.getfield 113, 3) := by decide +kernel
theorem dX12_setsStyle_57 : decode cX12_setsStyle 57 = .ok (.iload 5, 2) := by decide +kernel
theorem dX12_setsStyle_59 : decode cX12_setsStyle 59 = .ok (.iaload, 1) := by decide +kernel
theorem dX12_setsStyle_60 : decode cX12_setsStyle 60 = .ok (.iload_n 3, 1) := by decide +kernel
theorem dX12_setsStyle_61 : decode cX12_setsStyle 61 = .ok (.if_icmp .ge 11, 3) := by decide +kernel
theorem dX12_setsStyle_64 : decode cX12_setsStyle 64 = .ok (.aload_n 0, 1) := by decide +kernel
theorem dX12_setsStyle_65 : decode cX12_setsStyle 65 = .ok (.getfield 113, 3) := by decide +kernel
theorem dX12_setsStyle_68 : decode cX12_setsStyle 68 = .ok (.iload 5, 2) := by decide +kernel
theorem dX12_setsStyle_70 : decode cX12_setsStyle 70 = .ok (.iaload, 1) := by decide +kernel
theorem dX12_setsStyle_71 : decode cX12_setsStyle 71 = .ok (.istore_n 3, 1) := by decide +kernel
theorem dX12_setsStyle_72 : decode cX12_setsStyle 72 = .ok (.aload_n 0, 1) := by decide +kernel
theorem dX12_setsStyle_73 : decode cX12_setsStyle 73 = .ok (.getfield 113, 3) := by decide +kernel
theorem dX12_setsStyle_76 : decode cX12_setsStyle 76 = .ok (.iload 5, 2) := by decide +kernel
theorem dX12_setsStyle_78 : decode cX12_setsStyle 78 = .ok (.iaload, 1) := by decide +kernel
theorem dX12_setsStyle_79 : decode cX12_setsStyle 79 = .ok (.iload 4, 2) := by decide +kernel
theorem dX12_setsStyle_81 : decode cX12_setsStyle 81 = .ok (.if_icmp .le 12, 3) := by decide +kernel
theorem dX12_setsStyle_84 : decode cX12_setsStyle 84 = .ok (.aload_n 0, 1) := by decide +kernel
theorem dX12_setsStyle_85 : decode cX12_setsStyle 85 = .ok (.getfield 113, 3) := by decide +kernel
theorem dX12_setsStyle_88 : decode cX12_setsStyle 88 = .ok (.iload 5, 2) := by decide +kernel
theorem dX12_setsStyle_90 : decode cX12_setsStyle 90 = .ok (.iaload, 1) := by decide +kernel
theorem dX12_setsStyle_91 : decode cX12_setsStyle 91 = .ok (.istore 4, 2) := by decide +kernel
theorem dX12_setsStyle_93 : decode cX12_setsStyle 93 = .ok (.iinc 5 1, 3) := by decide +kernel
theorem dX12_setsStyle_96 : decode cX12_setsStyle 96 = .ok (.goto (-82), 3) := by decide +kernel
theorem dX12_setsStyle_99 : decode cX12_setsStyle 99 = .ok (.aload_n 0, 1) := by decide +kernel
theorem dX12_setsStyle_100 : decode cX12_setsStyle 100 = .ok (.iload_n 1, 1) := by decide +kernel
theorem dX12_setsStyle_101 : decode cX12_setsStyle 101 = .ok (.iconst 2, 1) := by decide +kernel
theorem dX12_setsStyle_102 : decode cX12_setsStyle 102 = .ok (.if_icmp .le 12, 3) := by decide +kernel
theorem dX12_setsStyle_105 : decode cX12_setsStyle 105 = .ok (.iload_n 2, 1) := by decide +kernel
theorem dX12_setsStyle_106 : decode cX12_setsStyle 106 = .ok (.iload_n 3, 1) := by decide +kernel
theorem dX12_setsStyle_107 : decode cX12_setsStyle 107 = .ok (.isub, 1) := by decide +kernel
theorem dX12_setsStyle_108 : decode cX12_setsStyle 108 = .ok (.iload 4, 2) := by decide +kernel
theorem dX12_setsStyle_110 : decode cX12_setsStyle 110 = .ok (.isub, 1) := by decide +kernel
theorem dX12_setsStyle_111 : decode cX12_setsStyle 111 = .ok (.goto 4, 3) := by decide +kernel
theorem dX12_setsStyle_114 : decode cX12_setsStyle 114 = .ok (.iload_n 2, 1) := by decide +kernel
theorem dX12_setsStyle_115 : decode cX12_setsStyle 115 = .ok (.putfield 377, 3) := by decide +kernel
theorem dX12_setsStyle_118 : decode cX12_setsStyle 118 = .ok (.return_, 1) := by decide +kernel
theorem dX12_setsPoints_0 : decode cX12_setsPoints 0 = .ok (.aload_n 0, 1) := by decide +kernel
theorem dX12_setsPoints_1 : decode cX12_setsPoints 1 = .ok (.invokevirtual 319, 3) := by decide +kernel
theorem dX12_setsPoints_4 : decode cX12_setsPoints 4 = .ok (.aload_n 0, 1) := by decide +kernel
theorem dX12_setsPoints_5 : decode cX12_setsPoints 5 = .ok (.getfield 101, 3) := by decide +kernel
theorem dX12_setsPoints_8 : decode cX12_setsPoints 8 = .ok (.iconst 2, 1) := by decide +kernel
theorem dX12_setsPoints_9 : decode cX12_setsPoints 9 = .ok (.aload_n 0, 1) := by decide +kernel
theorem dX12_setsPoints_10 : decode cX12_setsPoints 10 = .ok (.getfield 353, 3) := by decide +kernel
theorem dX12_setsPoints_13 : decode cX12_setsPoints 13 = .ok (.iastore, 1) := by decide +kernel
theorem dX12_setsPoints_14 : decode cX12_setsPoints 14 = .ok (.aload_n 0, 1) := by decide +kernel
theorem dX12_setsPoints_15 : decode cX12_setsPoints 15 = .ok (.iconst 2, 1) := by decide +kernel
theorem dX12_setsPoints_16 : decode cX12_setsPoints 16 = .ok (.iconst 0, 1) := by decide +kernel
theorem dX12_setsPoints_17 : decode cX12_setsPoints 17 = .ok (.sipush (-999), 3) := by decide +kernel
theorem dX12_setsPoints_20 : decode cX12_setsPoints 20 = .ok (.sipush 999, 3) := by decide +kernel
theorem dX12_setsPoints_23 : decode cX12_setsPoints 23 = .ok (.invokevirtual 322, 3) := by decide +kernel
theorem dX12_setsPoints_26 : decode cX12_setsPoints 26 = .ok (.istore_n 1, 1) := by decide +kernel
theorem dX12_setsPoints_27 : decode cX12_setsPoints 27 = .ok (.sipush 600, 3) := by decide +kernel
theorem dX12_setsPoints_30 : decode cX12_setsPoints 30 = .ok (.aload_n 0, 1) := by decide +kernel
theorem dX12_setsPoints_31 : decode cX12_setsPoints 31 = .ok (.iconst 2, 1) := by decide +kernel
theorem dX12_setsPoints_32 : decode cX12_setsPoints 32 = .ok (.invokevirtual 297, 3) := by decide +kernel
theorem dX12_setsPoints_35 : decode cX12_setsPoints 35 = .ok (.aload_n 0, 1) := by decide +kernel
theorem dX12_setsPoints_36 : decode cX12_setsPoints 36 = .ok (.getfield 365, 3) := by decide +kernel
theorem dX12_setsPoints_39 : decode cX12_setsPoints 39 = .ok (.aload_n 0, 1) := by decide +kernel
theorem dX12_setsPoints_40 : decode cX12_setsPoints 40 = .ok (.iconst 0, 1) := by decide +kernel
theorem dX12_setsPoints_41 : decode cX12_setsPoints 41 = .ok (.invokevirtual 297, 3) := by decide +kernel
theorem dX12_setsPoints_44 : decode cX12_setsPoints 44 = .ok (.isub, 1) := by decide +kernel
theorem dX12_setsPoints_45 : decode cX12_setsPoints 45 = .ok (.imul, 1) := by decide +kernel
theorem dX12_setsPoints_46 : decode cX12_setsPoints 46 = .ok (.bipush 10, 2) := by decide +kernel
theorem dX12_setsPoints_48 : decode cX12_setsPoints 48 = .ok (.idiv, 1) := by decide +kernel
theorem dX12_setsPoints_49 : decode cX12_setsPoints 49 = .ok (.iadd, 1) := by decide +kernel
theorem dX12_setsPoints_50 : decode cX12_setsPoints 50 = .ok (.aload_n 0, 1) := by decide +kernel
theorem dX12_setsPoints_51 : decode cX12_setsPoints 51 = .ok (.getfield 377, 3) := by decide +kernel
theorem dX12_setsPoints_54 : decode cX12_setsPoints 54 = .ok (.iadd, 1) := by decide +kernel
theorem dX12_setsPoints_55 : decode cX12_setsPoints 55 = .ok (.iload_n 1, 1) := by decide +kernel
theorem dX12_setsPoints_56 : decode cX12_setsPoints 56 = .ok (.iadd, 1) := by decide +kernel
theorem dX12_setsPoints_57 : decode cX12_setsPoints 57 = .ok (.aload_n 0, 1) := by decide +kernel
theorem dX12_setsPoints_58 : decode cX12_setsPoints 58 = .ok (.bipush 13, 2) := by decide +kernel
theorem dX12_setsPoints_60 : decode cX12_setsPoints 60 = .ok (.invokevirtual 297, 3) := by decide +kernel
theorem dX12_setsPoints_63 : decode cX12_setsPoints 63 = .ok (.aload_n 0, 1) := by decide +kernel
theorem dX12_setsPoints_64 : decode cX12_setsPoints 64 = .ok (.bipush 12, 2) := by decide +kernel
theorem dX12_setsPoints_66 : decode cX12_setsPoints 66 = .ok (.invokevirtual 297, 3) := by decide +kernel
theorem dX12_setsPoints_69 : decode cX12_setsPoints 69 = .ok (.aload_n 0, 1) := by decide +kernel
theorem dX12_setsPoints_70 : decode cX12_setsPoints 70 = .ok (.getfield 338, 3) := by decide +kernel
theorem dX12_setsPoints_73 : decode cX12_setsPoints 73 = .ok (.isub, 1) := by decide +kernel
theorem dX12_setsPoints_74 : decode cX12_setsPoints 74 = .ok (.imul, 1) := by decide +kernel
theorem dX12_setsPoints_75 : decode cX12_setsPoints 75 = .ok (.iadd, 1) := by decide +kernel
theorem dX12_setsPoints_76 : decode cX12_setsPoints 76 = .ok (.istore_n 2, 1) := by decide +kernel
theorem dX12_setsPoints_77 : decode cX12_setsPoints 77 = .ok (.aload_n 0, 1) := by decide +kernel
theorem dX12_setsPoints_78 : decode cX12_setsPoints 78 = .ok (.iload_n 2, 1) := by decide +kernel
theorem dX12_setsPoints_79 : decode cX12_setsPoints 79 = .ok (.ifCond .ge 7, 3) := by decide +kernel
theorem dX12_setsPoints_82 : decode cX12_setsPoints 82 = .ok (.iconst 0, 1) := by decide +kernel
theorem dX12_setsPoints_83 : decode cX12_setsPoints 83 = .ok (.goto 4, 3) := by decide +kernel
theorem dX12_setsPoints_86 : decode cX12_setsPoints 86 = .ok (.iload_n 2, 1) := by decide +kernel
theorem dX12_setsPoints_87 : decode cX12_setsPoints 87 = .ok (.putfield 380, 3) := by decide +kernel
theorem dX12_setsPoints_90 : decode cX12_setsPoints 90 = .ok (.return_, 1) := by decide +kernel
theorem dX12_cell_0 : decode cX12_cell 0 = .ok (.iload_n 1, 1) := by decide +kernel
theorem dX12_cell_1 : decode cX12_cell 1 = .ok (.bipush 8, 2) := by decide +kernel
theorem dX12_cell_3 : decode cX12_cell 3 = .ok (.iload_n 2, 1) := by decide +kernel
theorem dX12_cell_4 : decode cX12_cell 4 = .ok (.imul, 1) := by decide +kernel
theorem dX12_cell_5 : decode cX12_cell 5 = .ok (.iadd, 1) := by decide +kernel
theorem dX12_cell_6 : decode cX12_cell 6 = .ok (.iload_n 3, 1) := by decide +kernel
theorem dX12_cell_7 : decode cX12_cell 7 = .ok (.iadd, 1) := by decide +kernel
theorem dX12_cell_8 : decode cX12_cell 8 = .ok (.ireturn, 1) := by decide +kernel
theorem dX12_pointsOf_0 : decode cX12_pointsOf 0 = .ok (.aload_n 0, 1) := by decide +kernel
theorem dX12_pointsOf_1 : decode cX12_pointsOf 1 = .ok (.getfield 110, 3) := by decide +kernel
theorem dX12_pointsOf_4 : decode cX12_pointsOf 4 = .ok (.aload_n 0, 1) := by decide +kernel
theorem dX12_pointsOf_5 : decode cX12_pointsOf 5 = .ok (.bipush 36, 2) := by decide +kernel
theorem dX12_pointsOf_7 : decode cX12_pointsOf 7 = .ok (.iconst 0, 1) := by decide +kernel
theorem dX12_pointsOf_8 : decode cX12_pointsOf 8 = .ok (.iload_n 1, 1) := by decide +kernel
theorem dX12_pointsOf_9 : decode cX12_pointsOf 9 = .ok (.invokevirtual 383, 3) := by decide +kernel
theorem dX12_pointsOf_12 : decode cX12_pointsOf 12 = .ok (.iaload, 1) := by decide +kernel
theorem dX12_pointsOf_13 : decode cX12_pointsOf 13 = .ok (.aload_n 0, 1) := by decide +kernel
theorem dX12_pointsOf_14 : decode cX12_pointsOf 14 = .ok (.getfield 110, 3) := by decide +kernel
theorem dX12_pointsOf_17 : decode cX12_pointsOf 17 = .ok (.aload_n 0, 1) := by decide +kernel
theorem dX12_pointsOf_18 : decode cX12_pointsOf 18 = .ok (.bipush 36, 2) := by decide +kernel
theorem dX12_pointsOf_20 : decode cX12_pointsOf 20 = .ok (.iconst 1, 1) := by decide +kernel
theorem dX12_pointsOf_21 : decode cX12_pointsOf 21 = .ok (.iload_n 1, 1) := by decide +kernel
theorem dX12_pointsOf_22 : decode cX12_pointsOf 22 = .ok (.invokevirtual 383, 3) := by decide +kernel
theorem dX12_pointsOf_25 : decode cX12_pointsOf 25 = .ok (.iaload, 1) := by decide +kernel
theorem dX12_pointsOf_26 : decode cX12_pointsOf 26 = .ok (.iadd, 1) := by decide +kernel
theorem dX12_pointsOf_27 : decode cX12_pointsOf 27 = .ok (.ireturn, 1) := by decide +kernel
theorem dX12_rankBy_0 : decode cX12_rankBy 0 = .ok (.iconst 0, 1) := by decide +kernel
theorem dX12_rankBy_1 : decode cX12_rankBy 1 = .ok (.istore_n 3, 1) := by decide +kernel
theorem dX12_rankBy_2 : decode cX12_rankBy 2 = .ok (.iconst 0, 1) := by decide +kernel
theorem dX12_rankBy_3 : decode cX12_rankBy 3 = .ok (.istore 4, 2) := by decide +kernel
theorem dX12_rankBy_5 : decode cX12_rankBy 5 = .ok (.iload 4, 2) := by decide +kernel
theorem dX12_rankBy_7 : decode cX12_rankBy 7 = .ok (.aload_n 0, 1) := by decide +kernel
theorem dX12_rankBy_8 : decode cX12_rankBy 8 = .ok (.getfield 46, 3) := by decide +kernel
theorem dX12_rankBy_11 : decode cX12_rankBy 11 = .ok (.aload_n 0, 1) := by decide +kernel
theorem dX12_rankBy_12 : decode cX12_rankBy 12 = .ok (.getfield 218, 3) := by decide +kernel
theorem dX12_rankBy_15 : decode cX12_rankBy 15 = .ok (.iaload, 1) := by decide +kernel
theorem dX12_rankBy_16 : decode cX12_rankBy 16 = .ok (.if_icmp .ge 78, 3) := by decide +kernel
theorem dX12_rankBy_19 : decode cX12_rankBy 19 = .ok (.iload_n 2, 1) := by decide +kernel
theorem dX12_rankBy_20 : decode cX12_rankBy 20 = .ok (.iconst 1, 1) := by decide +kernel
theorem dX12_rankBy_21 : decode cX12_rankBy 21 = .ok (.if_icmp .ne 34, 3) := by decide +kernel
theorem dX12_rankBy_24 : decode cX12_rankBy 24 = .ok (.aload_n 0, 1) := by decide +kernel
theorem dX12_rankBy_25 : decode cX12_rankBy 25 = .ok (.getfield 110, 3) := by decide +kernel
theorem dX12_rankBy_28 : decode cX12_rankBy 28 = .ok (.aload_n 0, 1) := by decide +kernel
theorem dX12_rankBy_29 : decode cX12_rankBy 29 = .ok (.bipush 36, 2) := by decide +kernel
theorem dX12_rankBy_31 : decode cX12_rankBy 31 = .ok (.iconst 0, 1) := by decide +kernel
theorem dX12_rankBy_32 : decode cX12_rankBy 32 = .ok (.iload 4, 2) := by decide +kernel
theorem dX12_rankBy_34 : decode cX12_rankBy 34 = .ok (.invokevirtual 383, 3) := by decide +kernel
theorem dX12_rankBy_37 : decode cX12_rankBy 37 = .ok (.iaload, 1) := by decide +kernel
theorem dX12_rankBy_38 : decode cX12_rankBy 38 = .ok (.aload_n 0, 1) := by decide +kernel
theorem dX12_rankBy_39 : decode cX12_rankBy 39 = .ok (.getfield 110, 3) := by decide +kernel
theorem dX12_rankBy_42 : decode cX12_rankBy 42 = .ok (.aload_n 0, 1) := by decide +kernel
theorem dX12_rankBy_43 : decode cX12_rankBy 43 = .ok (.bipush 36, 2) := by decide +kernel
theorem dX12_rankBy_45 : decode cX12_rankBy 45 = .ok (.iconst 0, 1) := by decide +kernel
theorem dX12_rankBy_46 : decode cX12_rankBy 46 = .ok (.iload_n 1, 1) := by decide +kernel
theorem dX12_rankBy_47 : decode cX12_rankBy 47 = .ok (.invokevirtual 383, 3) := by decide +kernel
theorem dX12_rankBy_50 : decode cX12_rankBy 50 = .ok (.iaload, 1) := by decide +kernel
theorem dX12_rankBy_51 : decode cX12_rankBy 51 = .ok (.isub, 1) := by decide +kernel
theorem dX12_rankBy_52 : decode cX12_rankBy 52 = .ok (.goto 15, 3) := by decide +kernel
theorem dX12_rankBy_55 : decode cX12_rankBy 55 = .ok (.aload_n 0, 1) := by decide +kernel
theorem dX12_rankBy_56 : decode cX12_rankBy 56 = .ok (.iload 4, 2) := by decide +kernel
theorem dX12_rankBy_58 : decode cX12_rankBy 58 = .ok (.invokevirtual 386, 3) := by decide +kernel
theorem dX12_rankBy_61 : decode cX12_rankBy 61 = .ok (.aload_n 0, 1) := by decide +kernel
theorem dX12_rankBy_62 : decode cX12_rankBy 62 = .ok (.iload_n 1, 1) := by decide +kernel
theorem dX12_rankBy_63 : decode cX12_rankBy 63 = .ok (.invokevirtual 386, 3) := by decide +kernel
theorem dX12_rankBy_66 : decode cX12_rankBy 66 = .ok (.isub, 1) := by decide +kernel
theorem dX12_rankBy_67 : decode cX12_rankBy 67 = .ok (.istore 5, 2) := by decide +kernel
theorem dX12_rankBy_69 : decode cX12_rankBy 69 = .ok (.iload 5, 2) := by decide +kernel
theorem dX12_rankBy_71 : decode cX12_rankBy 71 = .ok (.ifCond .gt 14, 3) := by decide +kernel
theorem dX12_rankBy_74 : decode cX12_rankBy 74 = .ok (.iload 5, 2) := by decide +kernel
theorem dX12_rankBy_76 : decode cX12_rankBy 76 = .ok (.ifCond .ne 12, 3) := by decide +kernel
theorem dX12_rankBy_79 : decode cX12_rankBy 79 = .ok (.iload 4, 2) := by decide +kernel
theorem dX12_rankBy_81 : decode cX12_rankBy 81 = .ok (.iload_n 1, 1) := by decide +kernel
theorem dX12_rankBy_82 : decode cX12_rankBy 82 = .ok (.if_icmp .ge 6, 3) := by decide +kernel
theorem dX12_rankBy_85 : decode cX12_rankBy 85 = .ok (.iinc 3 1, 3) := by decide +kernel
theorem dX12_rankBy_88 : decode cX12_rankBy 88 = .ok (.iinc 4 1, 3) := by decide +kernel
theorem dX12_rankBy_91 : decode cX12_rankBy 91 = .ok (.goto (-86), 3) := by decide +kernel
theorem dX12_rankBy_94 : decode cX12_rankBy 94 = .ok (.iload_n 3, 1) := by decide +kernel
theorem dX12_rankBy_95 : decode cX12_rankBy 95 = .ok (.ireturn, 1) := by decide +kernel
theorem dX12_inSecond_0 : decode cX12_inSecond 0 = .ok (.aload_n 0, 1) := by decide +kernel
theorem dX12_inSecond_1 : decode cX12_inSecond 1 = .ok (.bipush 14, 2) := by decide +kernel
theorem dX12_inSecond_3 : decode cX12_inSecond 3 = .ok (.invokevirtual 297, 3) := by decide +kernel
theorem dX12_inSecond_6 : decode cX12_inSecond 6 = .ok (.aload_n 0, 1) := by decide +kernel
theorem dX12_inSecond_7 : decode cX12_inSecond 7 = .ok (.getfield 46, 3) := by decide +kernel
theorem dX12_inSecond_10 : decode cX12_inSecond 10 = .ok (.aload_n 0, 1) := by decide +kernel
theorem dX12_inSecond_11 : decode cX12_inSecond 11 = .ok (.getfield 218, 3) := by decide +kernel
theorem dX12_inSecond_14 : decode cX12_inSecond 14 = .ok (.iaload, 1) := by decide +kernel
theorem dX12_inSecond_15 : decode cX12_inSecond 15 = .ok (.if_icmp .ge 12, 3) := by decide +kernel
theorem dX12_inSecond_18 : decode cX12_inSecond 18 = .ok (.aload_n 0, 1) := by decide +kernel
theorem dX12_inSecond_19 : decode cX12_inSecond 19 = .ok (.bipush 14, 2) := by decide +kernel
theorem dX12_inSecond_21 : decode cX12_inSecond 21 = .ok (.invokevirtual 297, 3) := by decide +kernel
theorem dX12_inSecond_24 : decode cX12_inSecond 24 = .ok (.goto 12, 3) := by decide +kernel
theorem dX12_inSecond_27 : decode cX12_inSecond 27 = .ok (.aload_n 0, 1) := by decide +kernel
theorem dX12_inSecond_28 : decode cX12_inSecond 28 = .ok (.getfield 46, 3) := by decide +kernel
theorem dX12_inSecond_31 : decode cX12_inSecond 31 = .ok (.aload_n 0, 1) := by decide +kernel
theorem dX12_inSecond_32 : decode cX12_inSecond 32 = .ok (.getfield 218, 3) := by decide +kernel
theorem dX12_inSecond_35 : decode cX12_inSecond 35 = .ok (.iaload, 1) := by decide +kernel
theorem dX12_inSecond_36 : decode cX12_inSecond 36 = .ok (.ireturn, 1) := by decide +kernel
theorem dX12_nextOne_0 : decode cX12_nextOne 0 = .ok (.aload_n 0, 1) := by decide +kernel
theorem dX12_nextOne_1 : decode cX12_nextOne 1 = .ok (.getfield 46, 3) := by decide +kernel
theorem dX12_nextOne_4 : decode cX12_nextOne 4 = .ok (.aload_n 0, 1) := by decide +kernel
theorem dX12_nextOne_5 : decode cX12_nextOne 5 = .ok (.getfield 218, 3) := by decide +kernel
theorem dX12_nextOne_8 : decode cX12_nextOne 8 = .ok (.iaload, 1) := by decide +kernel
theorem dX12_nextOne_9 : decode cX12_nextOne 9 = .ok (.ifCond .eq 13, 3) := by decide +kernel
theorem dX12_nextOne_12 : decode cX12_nextOne 12 = .ok (.aload_n 0, 1) := by decide +kernel
theorem dX12_nextOne_13 : decode cX12_nextOne 13 = .ok (.getfield 110, 3) := by decide +kernel
theorem dX12_nextOne_16 : decode cX12_nextOne 16 = .ok (.iconst 1, 1) := by decide +kernel
theorem dX12_nextOne_17 : decode cX12_nextOne 17 = .ok (.iaload, 1) := by decide +kernel
theorem dX12_nextOne_18 : decode cX12_nextOne 18 = .ok (.iconst 3, 1) := by decide +kernel
theorem dX12_nextOne_19 : decode cX12_nextOne 19 = .ok (.if_icmp .ne 6, 3) := by decide +kernel
theorem dX12_nextOne_22 : decode cX12_nextOne 22 = .ok (.bipush (-2), 2) := by decide +kernel
theorem dX12_nextOne_24 : decode cX12_nextOne 24 = .ok (.ireturn, 1) := by decide +kernel
theorem dX12_nextOne_25 : decode cX12_nextOne 25 = .ok (.aload_n 0, 1) := by decide +kernel
theorem dX12_nextOne_26 : decode cX12_nextOne 26 = .ok (.getfield 110, 3) := by decide +kernel
theorem dX12_nextOne_29 : decode cX12_nextOne 29 = .ok (.iconst 1, 1) := by decide +kernel
theorem dX12_nextOne_30 : decode cX12_nextOne 30 = .ok (.iaload, 1) := by decide +kernel
theorem dX12_nextOne_31 : decode cX12_nextOne 31 = .ok (.iconst 1, 1) := by decide +kernel
theorem dX12_nextOne_32 : decode cX12_nextOne 32 = .ok (.if_icmp .ne 38, 3) := by decide +kernel
theorem dX12_nextOne_35 : decode cX12_nextOne 35 = .ok (.aload_n 0, 1) := by decide +kernel
theorem dX12_nextOne_36 : decode cX12_nextOne 36 = .ok (.getfield 306, 3) := by decide +kernel
theorem dX12_nextOne_39 : decode cX12_nextOne 39 = .ok (.ifCond .eq 24, 3) := by decide +kernel
theorem dX12_nextOne_42 : decode cX12_nextOne 42 = .ok (.aload_n 0, 1) := by decide +kernel
theorem dX12_nextOne_43 : decode cX12_nextOne 43 = .ok (.getfield 46, 3) := by decide +kernel
theorem dX12_nextOne_46 : decode cX12_nextOne 46 = .ok (.aload_n 0, 1) := by decide +kernel
theorem dX12_nextOne_47 : decode cX12_nextOne 47 = .ok (.getfield 218, 3) := by decide +kernel
theorem dX12_nextOne_50 : decode cX12_nextOne 50 = .ok (.iaload, 1) := by decide +kernel
theorem dX12_nextOne_51 : decode cX12_nextOne 51 = .ok (.iconst 1, 1) := by decide +kernel
theorem dX12_nextOne_52 : decode cX12_nextOne 52 = .ok (.isub, 1) := by decide +kernel
theorem dX12_nextOne_53 : decode cX12_nextOne 53 = .ok (.aload_n 0, 1) := by decide +kernel
theorem dX12_nextOne_54 : decode cX12_nextOne 54 = .ok (.getfield 110, 3) := by decide +kernel
theorem dX12_nextOne_57 : decode cX12_nextOne 57 = .ok (.iconst 3, 1) := by decide +kernel
theorem dX12_nextOne_58 : decode cX12_nextOne 58 = .ok (.iaload, 1) := by decide +kernel
theorem dX12_nextOne_59 : decode cX12_nextOne 59 = .ok (.isub, 1) := by decide +kernel
theorem dX12_nextOne_60 : decode cX12_nextOne 60 = .ok (.goto 9, 3) := by decide +kernel
theorem dX12_nextOne_63 : decode cX12_nextOne 63 = .ok (.aload_n 0, 1) := by decide +kernel
theorem dX12_nextOne_64 : decode cX12_nextOne 64 = .ok (.getfield 110, 3) := by decide +kernel
theorem dX12_nextOne_67 : decode cX12_nextOne 67 = .ok (.iconst 3, 1) := by decide +kernel
theorem dX12_nextOne_68 : decode cX12_nextOne 68 = .ok (.iaload, 1) := by decide +kernel
theorem dX12_nextOne_69 : decode cX12_nextOne 69 = .ok (.ireturn, 1) := by decide +kernel
theorem dX12_nextOne_70 : decode cX12_nextOne 70 = .ok (.iconst 0, 1) := by decide +kernel
theorem dX12_nextOne_71 : decode cX12_nextOne 71 = .ok (.istore_n 1, 1) := by decide +kernel
theorem dX12_nextOne_72 : decode cX12_nextOne 72 = .ok (.iload_n 1, 1) := by decide +kernel
theorem dX12_nextOne_73 : decode cX12_nextOne 73 = .ok (.aload_n 0, 1) := by decide +kernel
theorem dX12_nextOne_74 : decode cX12_nextOne 74 = .ok (.getfield 46, 3) := by decide +kernel
theorem dX12_nextOne_77 : decode cX12_nextOne 77 = .ok (.aload_n 0, 1) := by decide +kernel
theorem dX12_nextOne_78 : decode cX12_nextOne 78 = .ok (.getfield 218, 3) := by decide +kernel
theorem dX12_nextOne_81 : decode cX12_nextOne 81 = .ok (.iaload, 1) := by decide +kernel
theorem dX12_nextOne_82 : decode cX12_nextOne 82 = .ok (.if_icmp .ge 33, 3) := by decide +kernel
theorem dX12_nextOne_85 : decode cX12_nextOne 85 = .ok (.aload_n 0, 1) := by decide +kernel
theorem dX12_nextOne_86 : decode cX12_nextOne 86 = .ok (.iload_n 1, 1) := by decide +kernel
theorem dX12_nextOne_87 : decode cX12_nextOne 87 = .ok (.iconst 1, 1) := by decide +kernel
theorem dX12_nextOne_88 : decode cX12_nextOne 88 = .ok (.invokevirtual 389, 3) := by decide +kernel
theorem dX12_nextOne_91 : decode cX12_nextOne 91 = .ok (.aload_n 0, 1) := by decide +kernel
theorem dX12_nextOne_92 : decode cX12_nextOne 92 = .ok (.invokevirtual 392, 3) := by decide +kernel
theorem dX12_nextOne_95 : decode cX12_nextOne 95 = .ok (.iconst 1, 1) := by decide +kernel
theorem dX12_nextOne_96 : decode cX12_nextOne 96 = .ok (.isub, 1) := by decide +kernel
theorem dX12_nextOne_97 : decode cX12_nextOne 97 = .ok (.aload_n 0, 1) := by decide +kernel
theorem dX12_nextOne_98 : decode cX12_nextOne 98 = .ok (.getfield 110, 3) := by decide +kernel
theorem dX12_nextOne_101 : decode cX12_nextOne 101 = .ok (.iconst 3, 1) := by decide +kernel
theorem dX12_nextOne_102 : decode cX12_nextOne 102 = .ok (.iaload, 1) := by decide +kernel
theorem dX12_nextOne_103 : decode cX12_nextOne 103 = .ok (.isub, 1) := by decide +kernel
theorem dX12_nextOne_104 : decode cX12_nextOne 104 = .ok (.if_icmp .ne 5, 3) := by decide +kernel
theorem dX12_nextOne_107 : decode cX12_nextOne 107 = .ok (.iload_n 1, 1) := by decide +kernel
theorem dX12_nextOne_108 : decode cX12_nextOne 108 = .ok (.ireturn, 1) := by decide +kernel
theorem dX12_nextOne_109 : decode cX12_nextOne 109 = .ok (.iinc 1 1, 3) := by decide +kernel
theorem dX12_nextOne_112 : decode cX12_nextOne 112 = .ok (.goto (-40), 3) := by decide +kernel
theorem dX12_nextOne_115 : decode cX12_nextOne 115 = .ok (.bipush (-2), 2) := by decide +kernel
theorem dX12_nextOne_117 : decode cX12_nextOne 117 = .ok (.ireturn, 1) := by decide +kernel
theorem dX12_letsGo_0 : decode cX12_letsGo 0 = .ok (.aload_n 0, 1) := by decide +kernel
theorem dX12_letsGo_1 : decode cX12_letsGo 1 = .ok (.getfield 55, 3) := by decide +kernel
theorem dX12_letsGo_4 : decode cX12_letsGo 4 = .ok (.bipush 8, 2) := by decide +kernel
theorem dX12_letsGo_6 : decode cX12_letsGo 6 = .ok (.aload_n 0, 1) := by decide +kernel
theorem dX12_letsGo_7 : decode cX12_letsGo 7 = .ok (.getfield 218, 3) := by decide +kernel
theorem dX12_letsGo_10 : decode cX12_letsGo 10 = .ok (.imul, 1) := by decide +kernel
theorem dX12_letsGo_11 : decode cX12_letsGo 11 = .ok (.iload_n 1, 1) := by decide +kernel
theorem dX12_letsGo_12 : decode cX12_letsGo 12 = .ok (.iadd, 1) := by decide +kernel
theorem dX12_letsGo_13 : decode cX12_letsGo 13 = .ok (.iaload, 1) := by decide +kernel
theorem dX12_letsGo_14 : decode cX12_letsGo 14 = .ok (.istore_n 3, 1) := by decide +kernel
theorem dX12_letsGo_15 : decode cX12_letsGo 15 = .ok (.aload_n 0, 1) := by decide +kernel
theorem dX12_letsGo_16 : decode cX12_letsGo 16 = .ok (.getfield 110, 3) := by decide +kernel
theorem dX12_letsGo_19 : decode cX12_letsGo 19 = .ok (.iconst 1, 1) := by decide +kernel
theorem dX12_letsGo_20 : decode cX12_letsGo 20 = .ok (.iaload, 1) := by decide +kernel
theorem dX12_letsGo_21 : decode cX12_letsGo 21 = .ok (.iconst 1, 1) := by decide +kernel
theorem dX12_letsGo_22 : decode cX12_letsGo 22 = .ok (.isub, 1) := by decide +kernel
theorem dX12_letsGo_23 : decode cX12_letsGo 23 = .ok (.istore 4, 2) := by decide +kernel
theorem dX12_letsGo_25 : decode cX12_letsGo 25 = .ok (.aload_n 0, 1) := by decide +kernel
theorem dX12_letsGo_26 : decode cX12_letsGo 26 = .ok (.iload_n 1, 1) := by decide +kernel
theorem dX12_letsGo_27 : decode cX12_letsGo 27 = .ok (.iload_n 2, 1) := by decide +kernel
theorem dX12_letsGo_28 : decode cX12_letsGo 28 = .ok (.aload_n 0, 1) := by decide +kernel
theorem dX12_letsGo_29 : decode cX12_letsGo 29 = .ok (.ldc_w 395, 3) := by decide +kernel
theorem dX12_letsGo_32 : decode cX12_letsGo 32 = .ok (.iload_n 2, 1) := by decide +kernel
theorem dX12_letsGo_33 : decode cX12_letsGo 33 = .ok (.iadd, 1) := by decide +kernel
theorem dX12_letsGo_34 : decode cX12_letsGo 34 = .ok (.iconst 2, 1) := by decide +kernel
theorem dX12_letsGo_35 : decode cX12_letsGo 35 = .ok (.iload_n 3, 1) := by decide +kernel
theorem dX12_letsGo_36 : decode cX12_letsGo 36 = .ok (.imul, 1) := by decide +kernel
theorem dX12_letsGo_37 : decode cX12_letsGo 37 = .ok (.iconst 1, 1) := by decide +kernel
theorem dX12_letsGo_38 : decode cX12_letsGo 38 = .ok (.iadd, 1) := by decide +kernel
theorem dX12_letsGo_39 : decode cX12_letsGo 39 = .ok (.invokevirtual 326, 3) := by decide +kernel
theorem dX12_letsGo_42 : decode cX12_letsGo 42 = .ok (.iload_n 3, 1) := by decide +kernel
theorem dX12_letsGo_43 : decode cX12_letsGo 43 = .ok (.isub, 1) := by decide +kernel
theorem dX12_letsGo_44 : decode cX12_letsGo 44 = .ok (.aload_n 0, 1) := by decide +kernel
theorem dX12_letsGo_45 : decode cX12_letsGo 45 = .ok (.getfield 110, 3) := by decide +kernel
theorem dX12_letsGo_48 : decode cX12_letsGo 48 = .ok (.iconst 2, 1) := by decide +kernel
theorem dX12_letsGo_49 : decode cX12_letsGo 49 = .ok (.iaload, 1) := by decide +kernel
theorem dX12_letsGo_50 : decode cX12_letsGo 50 = .ok (.aload_n 0, 1) := by decide +kernel
theorem dX12_letsGo_51 : decode cX12_letsGo 51 = .ok (.getfield 110, 3) := by decide +kernel
theorem dX12_letsGo_54 : decode cX12_letsGo 54 = .ok (.iconst 3, 1) := by decide +kernel
theorem dX12_letsGo_55 : decode cX12_letsGo 55 = .ok (.iaload, 1) := by decide +kernel
theorem dX12_letsGo_56 : decode cX12_letsGo 56 = .ok (.invokevirtual 396, 3) := by decide +kernel
theorem dX12_letsGo_59 : decode cX12_letsGo 59 = .ok (.aload_n 0, 1) := by decide +kernel
theorem dX12_letsGo_60 : decode cX12_letsGo 60 = .ok (.getfield 110, 3) := by decide +kernel
theorem dX12_letsGo_63 : decode cX12_letsGo 63 = .ok (.aload_n 0, 1) := by decide +kernel
theorem dX12_letsGo_64 : decode cX12_letsGo 64 = .ok (.iconst 4, 1) := by decide +kernel
theorem dX12_letsGo_65 : decode cX12_letsGo 65 = .ok (.iload 4, 2) := by decide +kernel
theorem dX12_letsGo_67 : decode cX12_letsGo 67 = .ok (.iload_n 1, 1) := by decide +kernel
theorem dX12_letsGo_68 : decode cX12_letsGo 68 = .ok (.invokevirtual 383, 3) := by decide +kernel
theorem dX12_letsGo_71 : decode cX12_letsGo 71 = .ok (.iconst 1, 1) := by decide +kernel
theorem dX12_letsGo_72 : decode cX12_letsGo 72 = .ok (.iastore, 1) := by decide +kernel
theorem dX12_letsGo_73 : decode cX12_letsGo 73 = .ok (.aload_n 0, 1) := by decide +kernel
theorem dX12_letsGo_74 : decode cX12_letsGo 74 = .ok (.getfield 110, 3) := by decide +kernel
theorem dX12_letsGo_77 : decode cX12_letsGo 77 = .ok (.aload_n 0, 1) := by decide +kernel
theorem dX12_letsGo_78 : decode cX12_letsGo 78 = .ok (.bipush 20, 2) := by decide +kernel
theorem dX12_letsGo_80 : decode cX12_letsGo 80 = .ok (.iload 4, 2) := by decide +kernel
theorem dX12_letsGo_82 : decode cX12_letsGo 82 = .ok (.iload_n 1, 1) := by decide +kernel
theorem dX12_letsGo_83 : decode cX12_letsGo 83 = .ok (.invokevirtual 383, 3) := by decide +kernel
theorem dX12_letsGo_86 : decode cX12_letsGo 86 = .ok (.aload_n 0, 1) := by decide +kernel
theorem dX12_letsGo_87 : decode cX12_letsGo 87 = .ok (.getfield 365, 3) := by decide +kernel
theorem dX12_letsGo_90 : decode cX12_letsGo 90 = .ok (.iastore, 1) := by decide +kernel
theorem dX12_letsGo_91 : decode cX12_letsGo 91 = .ok (.aload_n 0, 1) := by decide +kernel
theorem dX12_letsGo_92 : decode cX12_letsGo 92 = .ok (.getfield 110, 3) := by decide +kernel
theorem dX12_letsGo_95 : decode cX12_letsGo 95 = .ok (.aload_n 0, 1) := by decide +kernel
theorem dX12_letsGo_96 : decode cX12_letsGo 96 = .ok (.bipush 36, 2) := by decide +kernel
theorem dX12_letsGo_98 : decode cX12_letsGo 98 = .ok (.iload 4, 2) := by decide +kernel
theorem dX12_letsGo_100 : decode cX12_letsGo 100 = .ok (.iload_n 1, 1) := by decide +kernel
theorem dX12_letsGo_101 : decode cX12_letsGo 101 = .ok (.invokevirtual 383, 3) := by decide +kernel
theorem dX12_letsGo_104 : decode cX12_letsGo 104 = .ok (.aload_n 0, 1) := by decide +kernel
theorem dX12_letsGo_105 : decode cX12_letsGo 105 = .ok (.getfield 380, 3) := by decide +kernel
theorem dX12_letsGo_108 : decode cX12_letsGo 108 = .ok (.iastore, 1) := by decide +kernel
theorem dX12_letsGo_109 : decode cX12_letsGo 109 = .ok (.aload_n 0, 1) := by decide +kernel
theorem dX12_letsGo_110 : decode cX12_letsGo 110 = .ok (.getfield 110, 3) := by decide +kernel
theorem dX12_letsGo_113 : decode cX12_letsGo 113 = .ok (.aload_n 0, 1) := by decide +kernel
theorem dX12_letsGo_114 : decode cX12_letsGo 114 = .ok (.bipush 52, 2) := by decide +kernel
theorem dX12_letsGo_116 : decode cX12_letsGo 116 = .ok (.iload 4, 2) := by decide +kernel
theorem dX12_letsGo_118 : decode cX12_letsGo 118 = .ok (.iload_n 1, 1) := by decide +kernel
theorem dX12_letsGo_119 : decode cX12_letsGo 119 = .ok (.invokevirtual 383, 3) := by decide +kernel
theorem dX12_letsGo_122 : decode cX12_letsGo 122 = .ok (.aload_n 0, 1) := by decide +kernel
theorem dX12_letsGo_123 : decode cX12_letsGo 123 = .ok (.getfield 377, 3) := by decide +kernel
theorem dX12_letsGo_126 : decode cX12_letsGo 126 = .ok (.iastore, 1) := by decide +kernel
theorem dX12_letsGo_127 : decode cX12_letsGo 127 = .ok (.aload_n 0, 1) := by decide +kernel
theorem dX12_letsGo_128 : decode cX12_letsGo 128 = .ok (.getfield 110, 3) := by decide +kernel
theorem dX12_letsGo_131 : decode cX12_letsGo 131 = .ok (.aload_n 0, 1) := by decide +kernel
theorem dX12_letsGo_132 : decode cX12_letsGo 132 = .ok (.bipush 68, 2) := by decide +kernel
theorem dX12_letsGo_134 : decode cX12_letsGo 134 = .ok (.iload 4, 2) := by decide +kernel
theorem dX12_letsGo_136 : decode cX12_letsGo 136 = .ok (.iload_n 1, 1) := by decide +kernel
theorem dX12_letsGo_137 : decode cX12_letsGo 137 = .ok (.invokevirtual 383, 3) := by decide +kernel
theorem dX12_letsGo_140 : decode cX12_letsGo 140 = .ok (.aload_n 0, 1) := by decide +kernel
theorem dX12_letsGo_141 : decode cX12_letsGo 141 = .ok (.getfield 335, 3) := by decide +kernel
theorem dX12_letsGo_144 : decode cX12_letsGo 144 = .ok (.iastore, 1) := by decide +kernel
theorem dX12_letsGo_145 : decode cX12_letsGo 145 = .ok (.aload_n 0, 1) := by decide +kernel
theorem dX12_letsGo_146 : decode cX12_letsGo 146 = .ok (.getfield 110, 3) := by decide +kernel
theorem dX12_letsGo_149 : decode cX12_letsGo 149 = .ok (.aload_n 0, 1) := by decide +kernel
theorem dX12_letsGo_150 : decode cX12_letsGo 150 = .ok (.bipush 84, 2) := by decide +kernel
theorem dX12_letsGo_152 : decode cX12_letsGo 152 = .ok (.iload 4, 2) := by decide +kernel
theorem dX12_letsGo_154 : decode cX12_letsGo 154 = .ok (.iload_n 1, 1) := by decide +kernel
theorem dX12_letsGo_155 : decode cX12_letsGo 155 = .ok (.invokevirtual 383, 3) := by decide +kernel
theorem dX12_letsGo_158 : decode cX12_letsGo 158 = .ok (.iload_n 2, 1) := by decide +kernel
theorem dX12_letsGo_159 : decode cX12_letsGo 159 = .ok (.iastore, 1) := by decide +kernel
theorem dX12_letsGo_160 : decode cX12_letsGo 160 = .ok (.aload_n 0, 1) := by decide +kernel
theorem dX12_letsGo_161 : decode cX12_letsGo 161 = .ok (.getfield 110, 3) := by decide +kernel
theorem dX12_letsGo_164 : decode cX12_letsGo 164 = .ok (.aload_n 0, 1) := by decide +kernel
theorem dX12_letsGo_165 : decode cX12_letsGo 165 = .ok (.bipush 100, 2) := by decide +kernel
theorem dX12_letsGo_167 : decode cX12_letsGo 167 = .ok (.iload 4, 2) := by decide +kernel
theorem dX12_letsGo_169 : decode cX12_letsGo 169 = .ok (.iload_n 1, 1) := by decide +kernel
theorem dX12_letsGo_170 : decode cX12_letsGo 170 = .ok (.invokevirtual 383, 3) := by decide +kernel
theorem dX12_letsGo_173 : decode cX12_letsGo 173 = .ok (.aload_n 0, 1) := by decide +kernel
theorem dX12_letsGo_174 : decode cX12_letsGo 174 = .ok (.getfield 338, 3) := by decide +kernel
theorem dX12_letsGo_177 : decode cX12_letsGo 177 = .ok (.iastore, 1) := by decide +kernel
theorem dX12_letsGo_178 : decode cX12_letsGo 178 = .ok (.aload_n 0, 1) := by decide +kernel
theorem dX12_letsGo_179 : decode cX12_letsGo 179 = .ok (.getfield 110, 3) := by decide +kernel
theorem dX12_letsGo_182 : decode cX12_letsGo 182 = .ok (.aload_n 0, 1) := by decide +kernel
theorem dX12_letsGo_183 : decode cX12_letsGo 183 = .ok (.bipush 116, 2) := by decide +kernel
theorem dX12_letsGo_185 : decode cX12_letsGo 185 = .ok (.iload 4, 2) := by decide +kernel
theorem dX12_letsGo_187 : decode cX12_letsGo 187 = .ok (.iload_n 1, 1) := by decide +kernel
theorem dX12_letsGo_188 : decode cX12_letsGo 188 = .ok (.invokevirtual 383, 3) := by decide +kernel
theorem dX12_letsGo_191 : decode cX12_letsGo 191 = .ok (.aload_n 0, 1) := by decide +kernel
theorem dX12_letsGo_192 : decode cX12_letsGo 192 = .ok (.getfield 353, 3) := by decide +kernel
theorem dX12_letsGo_195 : decode cX12_letsGo 195 = .ok (.iastore, 1) := by decide +kernel
theorem dX12_letsGo_196 : decode cX12_letsGo 196 = .ok (.aload_n 0, 1) := by decide +kernel
theorem dX12_letsGo_197 : decode cX12_letsGo 197 = .ok (.getfield 110, 3) := by decide +kernel
theorem dX12_letsGo_200 : decode cX12_letsGo 200 = .ok (.aload_n 0, 1) := by decide +kernel
theorem dX12_letsGo_201 : decode cX12_letsGo 201 = .ok (.sipush 132, 3) := by decide +kernel
theorem dX12_letsGo_204 : decode cX12_letsGo 204 = .ok (.iload 4, 2) := by decide +kernel
theorem dX12_letsGo_206 : decode cX12_letsGo 206 = .ok (.iload_n 1, 1) := by decide +kernel
theorem dX12_letsGo_207 : decode cX12_letsGo 207 = .ok (.invokevirtual 383, 3) := by decide +kernel
theorem dX12_letsGo_210 : decode cX12_letsGo 210 = .ok (.aload_n 0, 1) := by decide +kernel
theorem dX12_letsGo_211 : decode cX12_letsGo 211 = .ok (.getfield 341, 3) := by decide +kernel
theorem dX12_letsGo_214 : decode cX12_letsGo 214 = .ok (.iastore, 1) := by decide +kernel
theorem dX12_letsGo_215 : decode cX12_letsGo 215 = .ok (.iconst 0, 1) := by decide +kernel
theorem dX12_letsGo_216 : decode cX12_letsGo 216 = .ok (.istore 5, 2) := by decide +kernel
theorem dX12_letsGo_218 : decode cX12_letsGo 218 = .ok (.iload 5, 2) := by decide +kernel
theorem dX12_letsGo_220 : decode cX12_letsGo 220 = .ok (.aload_n 0, 1) := by decide +kernel
theorem dX12_letsGo_221 : decode cX12_letsGo 221 = .ok (.getfield 61, 3) := by decide +kernel
theorem dX12_letsGo_224 : decode cX12_letsGo 224 = .ok (.aload_n 0, 1) := by decide +kernel
theorem dX12_letsGo_225 : decode cX12_letsGo 225 = .ok (.getfield 218, 3) := by decide +kernel
theorem dX12_letsGo_228 : decode cX12_letsGo 228 = .ok (.iaload, 1) := by decide +kernel
theorem dX12_letsGo_229 : decode cX12_letsGo 229 = .ok (.if_icmp .ge 38, 3) := by decide +kernel
theorem dX12_letsGo_232 : decode cX12_letsGo 232 = .ok (.aload_n 0, 1) := by decide +kernel
theorem dX12_letsGo_233 : decode cX12_letsGo 233 = .ok (.getfield 110, 3) := by decide +kernel
theorem dX12_letsGo_236 : decode cX12_letsGo 236 = .ok (.sipush 148, 3) := by decide +kernel
theorem dX12_letsGo_239 : decode cX12_letsGo 239 = .ok (.bipush 7, 2) := by decide +kernel
theorem dX12_letsGo_241 : decode cX12_letsGo 241 = .ok (.bipush 8, 2) := by decide +kernel
theorem dX12_letsGo_243 : decode cX12_letsGo 243 = .ok (.iload 4, 2) := by decide +kernel
theorem dX12_letsGo_245 : decode cX12_letsGo 245 = .ok (.imul, 1) := by decide +kernel
theorem dX12_letsGo_246 : decode cX12_letsGo 246 = .ok (.iload_n 1, 1) := by decide +kernel
theorem dX12_letsGo_247 : decode cX12_letsGo 247 = .ok (.iadd, 1) := by decide +kernel
theorem dX12_letsGo_248 : decode cX12_letsGo 248 = .ok (.imul, 1) := by decide +kernel
theorem dX12_letsGo_249 : decode cX12_letsGo 249 = .ok (.iadd, 1) := by decide +kernel
theorem dX12_letsGo_250 : decode cX12_letsGo 250 = .ok (.iload 5, 2) := by decide +kernel
theorem dX12_letsGo_252 : decode cX12_letsGo 252 = .ok (.iadd, 1) := by decide +kernel
theorem dX12_letsGo_253 : decode cX12_letsGo 253 = .ok (.aload_n 0, 1) := by decide +kernel
theorem dX12_letsGo_254 : decode cX12_letsGo 254 = .ok (.getfield 113, 3) := by decide +kernel
theorem dX12_letsGo_257 : decode cX12_letsGo 257 = .ok (.iload 5, 2) := by decide +kernel
theorem dX12_letsGo_259 : decode cX12_letsGo 259 = .ok (.iaload, 1) := by decide +kernel
theorem dX12_letsGo_260 : decode cX12_letsGo 260 = .ok (.iastore, 1) := by decide +kernel
theorem dX12_letsGo_261 : decode cX12_letsGo 261 = .ok (.iinc 5 1, 3) := by decide +kernel
theorem dX12_letsGo_264 : decode cX12_letsGo 264 = .ok (.goto (-46), 3) := by decide +kernel
theorem dX12_letsGo_267 : decode cX12_letsGo 267 = .ok (.aload_n 0, 1) := by decide +kernel
theorem dX12_letsGo_268 : decode cX12_letsGo 268 = .ok (.getfield 110, 3) := by decide +kernel
theorem dX12_letsGo_271 : decode cX12_letsGo 271 = .ok (.iconst 0, 1) := by decide +kernel
theorem dX12_letsGo_272 : decode cX12_letsGo 272 = .ok (.iload_n 2, 1) := by decide +kernel
theorem dX12_letsGo_273 : decode cX12_letsGo 273 = .ok (.aload_n 0, 1) := by decide +kernel
theorem dX12_letsGo_274 : decode cX12_letsGo 274 = .ok (.bipush 11, 2) := by decide +kernel
theorem dX12_letsGo_276 : decode cX12_letsGo 276 = .ok (.invokevirtual 297, 3) := by decide +kernel
theorem dX12_letsGo_279 : decode cX12_letsGo 279 = .ok (.iadd, 1) := by decide +kernel
theorem dX12_letsGo_280 : decode cX12_letsGo 280 = .ok (.iastore, 1) := by decide +kernel
theorem dX12_letsGo_281 : decode cX12_letsGo 281 = .ok (.aload_n 0, 1) := by decide +kernel
theorem dX12_letsGo_282 : decode cX12_letsGo 282 = .ok (.getfield 110, 3) := by decide +kernel
theorem dX12_letsGo_285 : decode cX12_letsGo 285 = .ok (.iconst 3, 1) := by decide +kernel
theorem dX12_letsGo_286 : decode cX12_letsGo 286 = .ok (.dup2, 1) := by decide +kernel
theorem dX12_letsGo_287 : decode cX12_letsGo 287 = .ok (.iaload, 1) := by decide +kernel
theorem dX12_letsGo_288 : decode cX12_letsGo 288 = .ok (.iconst 1, 1) := by decide +kernel
theorem dX12_letsGo_289 : decode cX12_letsGo 289 = .ok (.iadd, 1) := by decide +kernel
theorem dX12_letsGo_290 : decode cX12_letsGo 290 = .ok (.iastore, 1) := by decide +kernel
theorem dX12_letsGo_291 : decode cX12_letsGo 291 = .ok (.aload_n 0, 1) := by decide +kernel
theorem dX12_letsGo_292 : decode cX12_letsGo 292 = .ok (.getfield 110, 3) := by decide +kernel
theorem dX12_letsGo_295 : decode cX12_letsGo 295 = .ok (.iconst 3, 1) := by decide +kernel
theorem dX12_letsGo_296 : decode cX12_letsGo 296 = .ok (.iaload, 1) := by decide +kernel
theorem dX12_letsGo_297 : decode cX12_letsGo 297 = .ok (.iload 4, 2) := by decide +kernel
theorem dX12_letsGo_299 : decode cX12_letsGo 299 = .ok (.ifCond .ne 15, 3) := by decide +kernel
theorem dX12_letsGo_302 : decode cX12_letsGo 302 = .ok (.aload_n 0, 1) := by decide +kernel
theorem dX12_letsGo_303 : decode cX12_letsGo 303 = .ok (.getfield 46, 3) := by decide +kernel
theorem dX12_letsGo_306 : decode cX12_letsGo 306 = .ok (.aload_n 0, 1) := by decide +kernel
theorem dX12_letsGo_307 : decode cX12_letsGo 307 = .ok (.getfield 218, 3) := by decide +kernel
theorem dX12_letsGo_310 : decode cX12_letsGo 310 = .ok (.iaload, 1) := by decide +kernel
theorem dX12_letsGo_311 : decode cX12_letsGo 311 = .ok (.goto 7, 3) := by decide +kernel
theorem dX12_letsGo_314 : decode cX12_letsGo 314 = .ok (.aload_n 0, 1) := by decide +kernel
theorem dX12_letsGo_315 : decode cX12_letsGo 315 = .ok (.invokevirtual 392, 3) := by decide +kernel
theorem dX12_letsGo_318 : decode cX12_letsGo 318 = .ok (.if_icmp .ge 4, 3) := by decide +kernel
theorem dX12_letsGo_321 : decode cX12_letsGo 321 = .ok (.return_, 1) := by decide +kernel
theorem dX12_letsGo_322 : decode cX12_letsGo 322 = .ok (.aload_n 0, 1) := by decide +kernel
theorem dX12_letsGo_323 : decode cX12_letsGo 323 = .ok (.getfield 110, 3) := by decide +kernel
theorem dX12_letsGo_326 : decode cX12_letsGo 326 = .ok (.iconst 1, 1) := by decide +kernel
theorem dX12_letsGo_327 : decode cX12_letsGo 327 = .ok (.dup2, 1) := by decide +kernel
theorem dX12_letsGo_328 : decode cX12_letsGo 328 = .ok (.iaload, 1) := by decide +kernel
theorem dX12_letsGo_329 : decode cX12_letsGo 329 = .ok (.iconst 1, 1) := by decide +kernel
theorem dX12_letsGo_330 : decode cX12_letsGo 330 = .ok (.iadd, 1) := by decide +kernel
theorem dX12_letsGo_331 : decode cX12_letsGo 331 = .ok (.iastore, 1) := by decide +kernel
theorem dX12_letsGo_332 : decode cX12_letsGo 332 = .ok (.aload_n 0, 1) := by decide +kernel
theorem dX12_letsGo_333 : decode cX12_letsGo 333 = .ok (.getfield 110, 3) := by decide +kernel
theorem dX12_letsGo_336 : decode cX12_letsGo 336 = .ok (.iconst 3, 1) := by decide +kernel
theorem dX12_letsGo_337 : decode cX12_letsGo 337 = .ok (.iconst 0, 1) := by decide +kernel
theorem dX12_letsGo_338 : decode cX12_letsGo 338 = .ok (.iastore, 1) := by decide +kernel
theorem dX12_letsGo_339 : decode cX12_letsGo 339 = .ok (.return_, 1) := by decide +kernel
theorem dX12_starts_0 : decode cX12_starts 0 = .ok (.aload_n 0, 1) := by decide +kernel
theorem dX12_starts_1 : decode cX12_starts 1 = .ok (.invokevirtual 400, 3) := by decide +kernel
theorem dX12_starts_4 : decode cX12_starts 4 = .ok (.istore_n 1, 1) := by decide +kernel
theorem dX12_starts_5 : decode cX12_starts 5 = .ok (.iconst 0, 1) := by decide +kernel
theorem dX12_starts_6 : decode cX12_starts 6 = .ok (.istore_n 2, 1) := by decide +kernel
theorem dX12_starts_7 : decode cX12_starts 7 = .ok (.iload_n 2, 1) := by decide +kernel
theorem dX12_starts_8 : decode cX12_starts 8 = .ok (.aload_n 0, 1) := by decide +kernel
theorem dX12_starts_9 : decode cX12_starts 9 = .ok (.bipush 10, 2) := by decide +kernel
theorem dX12_starts_11 : decode cX12_starts 11 = .ok (.invokevirtual 297, 3) := by decide +kernel
theorem dX12_starts_14 : decode cX12_starts 14 = .ok (.if_icmp .ge 18, 3) := by decide +kernel
theorem dX12_starts_17 : decode cX12_starts 17 = .ok (.aload_n 0, 1) := by decide +kernel
theorem dX12_starts_18 : decode cX12_starts 18 = .ok (.iload_n 1, 1) := by decide +kernel
theorem dX12_starts_19 : decode cX12_starts 19 = .ok (.iload_n 2, 1) := by decide +kernel
theorem dX12_starts_20 : decode cX12_starts 20 = .ok (.invokevirtual 403, 3) := by decide +kernel
theorem dX12_starts_23 : decode cX12_starts 23 = .ok (.ifCond .ne 9, 3) := by decide +kernel
theorem dX12_starts_26 : decode cX12_starts 26 = .ok (.iinc 2 1, 3) := by decide +kernel
theorem dX12_starts_29 : decode cX12_starts 29 = .ok (.goto (-22), 3) := by decide +kernel
theorem dX12_starts_32 : decode cX12_starts 32 = .ok (.aload_n 0, 1) := by decide +kernel
theorem dX12_starts_33 : decode cX12_starts 33 = .ok (.iload_n 1, 1) := by decide +kernel
theorem dX12_starts_34 : decode cX12_starts 34 = .ok (.aload_n 0, 1) := by decide +kernel
theorem dX12_starts_35 : decode cX12_starts 35 = .ok (.getfield 110, 3) := by decide +kernel
theorem dX12_starts_38 : decode cX12_starts 38 = .ok (.iconst 0, 1) := by decide +kernel
theorem dX12_starts_39 : decode cX12_starts 39 = .ok (.iaload, 1) := by decide +kernel
theorem dX12_starts_40 : decode cX12_starts 40 = .ok (.iload_n 2, 1) := by decide +kernel
theorem dX12_starts_41 : decode cX12_starts 41 = .ok (.iadd, 1) := by decide +kernel
theorem dX12_starts_42 : decode cX12_starts 42 = .ok (.invokevirtual 407, 3) := by decide +kernel
theorem dX12_starts_45 : decode cX12_starts 45 = .ok (.return_, 1) := by decide +kernel
theorem dX12_isLetGo_0 : decode cX12_isLetGo 0 = .ok (.aload_n 0, 1) := by decide +kernel
theorem dX12_isLetGo_1 : decode cX12_isLetGo 1 = .ok (.aload_n 0, 1) := by decide +kernel
theorem dX12_isLetGo_2 : decode cX12_isLetGo 2 = .ok (.getfield 110, 3) := by decide +kernel
theorem dX12_isLetGo_5 : decode cX12_isLetGo 5 = .ok (.iconst 0, 1) := by decide +kernel
theorem dX12_isLetGo_6 : decode cX12_isLetGo 6 = .ok (.iaload, 1) := by decide +kernel
theorem dX12_isLetGo_7 : decode cX12_isLetGo 7 = .ok (.iload_n 2, 1) := by decide +kernel
theorem dX12_isLetGo_8 : decode cX12_isLetGo 8 = .ok (.iadd, 1) := by decide +kernel
theorem dX12_isLetGo_9 : decode cX12_isLetGo 9 = .ok (.invokevirtual 350, 3) := by decide +kernel
theorem dX12_isLetGo_12 : decode cX12_isLetGo 12 = .ok (.istore_n 3, 1) := by decide +kernel
theorem dX12_isLetGo_13 : decode cX12_isLetGo 13 = .ok (.aload_n 0, 1) := by decide +kernel
theorem dX12_isLetGo_14 : decode cX12_isLetGo 14 = .ok (.invokevirtual 319, 3) := by decide +kernel
theorem dX12_isLetGo_17 : decode cX12_isLetGo 17 = .ok (.aload_n 0, 1) := by decide +kernel
theorem dX12_isLetGo_18 : decode cX12_isLetGo 18 = .ok (.getfield 101, 3) := by decide +kernel
theorem dX12_isLetGo_21 : decode cX12_isLetGo 21 = .ok (.iconst 0, 1) := by decide +kernel
theorem dX12_isLetGo_22 : decode cX12_isLetGo 22 = .ok (.iload_n 2, 1) := by decide +kernel
theorem dX12_isLetGo_23 : decode cX12_isLetGo 23 = .ok (.iastore, 1) := by decide +kernel
theorem dX12_isLetGo_24 : decode cX12_isLetGo 24 = .ok (.aload_n 0, 1) := by decide +kernel
theorem dX12_isLetGo_25 : decode cX12_isLetGo 25 = .ok (.getfield 101, 3) := by decide +kernel
theorem dX12_isLetGo_28 : decode cX12_isLetGo 28 = .ok (.iconst 2, 1) := by decide +kernel
theorem dX12_isLetGo_29 : decode cX12_isLetGo 29 = .ok (.iload_n 3, 1) := by decide +kernel
theorem dX12_isLetGo_30 : decode cX12_isLetGo 30 = .ok (.iastore, 1) := by decide +kernel
theorem dX12_isLetGo_31 : decode cX12_isLetGo 31 = .ok (.aload_n 0, 1) := by decide +kernel
theorem dX12_isLetGo_32 : decode cX12_isLetGo 32 = .ok (.getfield 101, 3) := by decide +kernel
theorem dX12_isLetGo_35 : decode cX12_isLetGo 35 = .ok (.iconst 3, 1) := by decide +kernel
theorem dX12_isLetGo_36 : decode cX12_isLetGo 36 = .ok (.aload_n 0, 1) := by decide +kernel
theorem dX12_isLetGo_37 : decode cX12_isLetGo 37 = .ok (.getfield 49, 3) := by decide +kernel
theorem dX12_isLetGo_40 : decode cX12_isLetGo 40 = .ok (.bipush 8, 2) := by decide +kernel
theorem dX12_isLetGo_42 : decode cX12_isLetGo 42 = .ok (.aload_n 0, 1) := by decide +kernel
theorem dX12_isLetGo_43 : decode cX12_isLetGo 43 = .ok (.getfield 218, 3) := by decide +kernel
theorem dX12_isLetGo_46 : decode cX12_isLetGo 46 = .ok (.imul, 1) := by decide +kernel
theorem dX12_isLetGo_47 : decode cX12_isLetGo 47 = .ok (.iload_n 1, 1) := by decide +kernel
theorem dX12_isLetGo_48 : decode cX12_isLetGo 48 = .ok (.iadd, 1) := by decide +kernel
theorem dX12_isLetGo_49 : decode cX12_isLetGo 49 = .ok (.iaload, 1) := by decide +kernel
theorem dX12_isLetGo_50 : decode cX12_isLetGo 50 = .ok (.iastore, 1) := by decide +kernel
theorem dX12_isLetGo_51 : decode cX12_isLetGo 51 = .ok (.aload_n 0, 1) := by decide +kernel
theorem dX12_isLetGo_52 : decode cX12_isLetGo 52 = .ok (.getfield 101, 3) := by decide +kernel
theorem dX12_isLetGo_55 : decode cX12_isLetGo 55 = .ok (.iconst 4, 1) := by decide +kernel
theorem dX12_isLetGo_56 : decode cX12_isLetGo 56 = .ok (.aload_n 0, 1) := by decide +kernel
theorem dX12_isLetGo_57 : decode cX12_isLetGo 57 = .ok (.getfield 52, 3) := by decide +kernel
theorem dX12_isLetGo_60 : decode cX12_isLetGo 60 = .ok (.bipush 8, 2) := by decide +kernel
theorem dX12_isLetGo_62 : decode cX12_isLetGo 62 = .ok (.aload_n 0, 1) := by decide +kernel
theorem dX12_isLetGo_63 : decode cX12_isLetGo 63 = .ok (.getfield 218, 3) := by decide +kernel
theorem dX12_isLetGo_66 : decode cX12_isLetGo 66 = .ok (.imul, 1) := by decide +kernel
theorem dX12_isLetGo_67 : decode cX12_isLetGo 67 = .ok (.iload_n 1, 1) := by decide +kernel
theorem dX12_isLetGo_68 : decode cX12_isLetGo 68 = .ok (.iadd, 1) := by decide +kernel
theorem dX12_isLetGo_69 : decode cX12_isLetGo 69 = .ok (.iaload, 1) := by decide +kernel
theorem dX12_isLetGo_70 : decode cX12_isLetGo 70 = .ok (.iastore, 1) := by decide +kernel
theorem dX12_isLetGo_71 : decode cX12_isLetGo 71 = .ok (.aload_n 0, 1) := by decide +kernel
theorem dX12_isLetGo_72 : decode cX12_isLetGo 72 = .ok (.iconst 4, 1) := by decide +kernel
theorem dX12_isLetGo_73 : decode cX12_isLetGo 73 = .ok (.iconst 1, 1) := by decide +kernel
theorem dX12_isLetGo_74 : decode cX12_isLetGo 74 = .ok (.ldc_w 410, 3) := by decide +kernel
theorem dX12_isLetGo_77 : decode cX12_isLetGo 77 = .ok (.ldc_w 411, 3) := by decide +kernel
theorem dX12_isLetGo_80 : decode cX12_isLetGo 80 = .ok (.invokevirtual 322, 3) := by decide +kernel
theorem dX12_isLetGo_83 : decode cX12_isLetGo 83 = .ok (.ifCond .le 7, 3) := by decide +kernel
theorem dX12_isLetGo_86 : decode cX12_isLetGo 86 = .ok (.iconst 1, 1) := by decide +kernel
theorem dX12_isLetGo_87 : decode cX12_isLetGo 87 = .ok (.goto 4, 3) := by decide +kernel
theorem dX12_isLetGo_90 : decode cX12_isLetGo 90 = .ok (.iconst 0, 1) := by decide +kernel
theorem dX12_isLetGo_91 : decode cX12_isLetGo 91 = .ok (.ireturn, 1) := by decide +kernel
theorem dX12_now_0 : decode cX12_now 0 = .ok (.aload_n 0, 1) := by decide +kernel
theorem dX12_now_1 : decode cX12_now 1 = .ok (.invokevirtual 412, 3) := by decide +kernel
theorem dX12_now_4 : decode cX12_now 4 = .ok (.iload_n 1, 1) := by decide +kernel
theorem dX12_now_5 : decode cX12_now 5 = .ok (.tableswitch 84 0 6 #[43, 43, 43, 50, 55, 62, 73], 43) := by decide +kernel
theorem dX12_now_48 : decode cX12_now 48 = .ok (.aload_n 0, 1) := by decide +kernel
theorem dX12_now_49 : decode cX12_now 49 = .ok (.getfield 110, 3) := by decide +kernel
theorem dX12_now_52 : decode cX12_now 52 = .ok (.iload_n 1, 1) := by decide +kernel
theorem dX12_now_53 : decode cX12_now 53 = .ok (.iaload, 1) := by decide +kernel
theorem dX12_now_54 : decode cX12_now 54 = .ok (.ireturn, 1) := by decide +kernel
theorem dX12_now_55 : decode cX12_now 55 = .ok (.aload_n 0, 1) := by decide +kernel
theorem dX12_now_56 : decode cX12_now 56 = .ok (.invokevirtual 400, 3) := by decide +kernel
theorem dX12_now_59 : decode cX12_now 59 = .ok (.ireturn, 1) := by decide +kernel
theorem dX12_now_60 : decode cX12_now 60 = .ok (.aload_n 0, 1) := by decide +kernel
theorem dX12_now_61 : decode cX12_now 61 = .ok (.getfield 110, 3) := by decide +kernel
theorem dX12_now_64 : decode cX12_now 64 = .ok (.iconst 3, 1) := by decide +kernel
theorem dX12_now_65 : decode cX12_now 65 = .ok (.iaload, 1) := by decide +kernel
theorem dX12_now_66 : decode cX12_now 66 = .ok (.ireturn, 1) := by decide +kernel
theorem dX12_now_67 : decode cX12_now 67 = .ok (.aload_n 0, 1) := by decide +kernel
theorem dX12_now_68 : decode cX12_now 68 = .ok (.aload_n 0, 1) := by decide +kernel
theorem dX12_now_69 : decode cX12_now 69 = .ok (.getfield 110, 3) := by decide +kernel
theorem dX12_now_72 : decode cX12_now 72 = .ok (.iconst 0, 1) := by decide +kernel
theorem dX12_now_73 : decode cX12_now 73 = .ok (.iaload, 1) := by decide +kernel
theorem dX12_now_74 : decode cX12_now 74 = .ok (.invokevirtual 350, 3) := by decide +kernel
theorem dX12_now_77 : decode cX12_now 77 = .ok (.ireturn, 1) := by decide +kernel
theorem dX12_now_78 : decode cX12_now 78 = .ok (.aload_n 0, 1) := by decide +kernel
theorem dX12_now_79 : decode cX12_now 79 = .ok (.aload_n 0, 1) := by decide +kernel
theorem dX12_now_80 : decode cX12_now 80 = .ok (.getfield 110, 3) := by decide +kernel
theorem dX12_now_83 : decode cX12_now 83 = .ok (.iconst 0, 1) := by decide +kernel
theorem dX12_now_84 : decode cX12_now 84 = .ok (.iaload, 1) := by decide +kernel
theorem dX12_now_85 : decode cX12_now 85 = .ok (.invokevirtual 344, 3) := by decide +kernel
theorem dX12_now_88 : decode cX12_now 88 = .ok (.ireturn, 1) := by decide +kernel
theorem dX12_now_89 : decode cX12_now 89 = .ok (.sipush (-10000), 3) := by decide +kernel
theorem dX12_now_92 : decode cX12_now 92 = .ok (.ireturn, 1) := by decide +kernel
theorem dX12_wind_0 : decode cX12_wind 0 = .ok (.iload_n 1, 1) := by decide +kernel
theorem dX12_wind_1 : decode cX12_wind 1 = .ok (.iconst 0, 1) := by decide +kernel
theorem dX12_wind_2 : decode cX12_wind 2 = .ok (.iconst 4, 1) := by decide +kernel
theorem dX12_wind_3 : decode cX12_wind 3 = .ok (.invokestatic 293, 3) := by decide +kernel
theorem dX12_wind_6 : decode cX12_wind 6 = .ok (.ifCond .eq 14, 3) := by decide +kernel
theorem dX12_wind_9 : decode cX12_wind 9 = .ok (.iload_n 2, 1) := by decide +kernel
theorem dX12_wind_10 : decode cX12_wind 10 = .ok (.iconst 0, 1) := by decide +kernel
theorem dX12_wind_11 : decode cX12_wind 11 = .ok (.ldc_w 415, 3) := by decide +kernel
theorem dX12_wind_14 : decode cX12_wind 14 = .ok (.invokestatic 293, 3) := by decide +kernel
theorem dX12_wind_17 : decode cX12_wind 17 = .ok (.ifCond .ne 7, 3) := by decide +kernel
theorem dX12_wind_20 : decode cX12_wind 20 = .ok (.sipush (-10000), 3) := by decide +kernel
theorem dX12_wind_23 : decode cX12_wind 23 = .ok (.ireturn, 1) := by decide +kernel
theorem dX12_wind_24 : decode cX12_wind 24 = .ok (.aload_n 0, 1) := by decide +kernel
theorem dX12_wind_25 : decode cX12_wind 25 = .ok (.invokevirtual 412, 3) := by decide +kernel
theorem dX12_wind_28 : decode cX12_wind 28 = .ok (.aload_n 0, 1) := by decide +kernel
theorem dX12_wind_29 : decode cX12_wind 29 = .ok (.iload_n 1, 1) := by decide +kernel
theorem dX12_wind_30 : decode cX12_wind 30 = .ok (.iload_n 2, 1) := by decide +kernel
theorem dX12_wind_31 : decode cX12_wind 31 = .ok (.invokevirtual 329, 3) := by decide +kernel
theorem dX12_wind_34 : decode cX12_wind 34 = .ok (.ireturn, 1) := by decide +kernel
theorem dX12_hasJump_0 : decode cX12_hasJump 0 = .ok (.aload_n 0, 1) := by decide +kernel
theorem dX12_hasJump_1 : decode cX12_hasJump 1 = .ok (.iload_n 1, 1) := by decide +kernel
theorem dX12_hasJump_2 : decode cX12_hasJump 2 = .ok (.invokevirtual 416, 3) := by decide +kernel
theorem dX12_hasJump_5 : decode cX12_hasJump 5 = .ok (.ifCond .eq 34, 3) := by decide +kernel
theorem dX12_hasJump_8 : decode cX12_hasJump 8 = .ok (.iload_n 2, 1) := by decide +kernel
theorem dX12_hasJump_9 : decode cX12_hasJump 9 = .ok (.iconst 1, 1) := by decide +kernel
theorem dX12_hasJump_10 : decode cX12_hasJump 10 = .ok (.iconst 2, 1) := by decide +kernel
theorem dX12_hasJump_11 : decode cX12_hasJump 11 = .ok (.invokestatic 293, 3) := by decide +kernel
theorem dX12_hasJump_14 : decode cX12_hasJump 14 = .ok (.ifCond .eq 25, 3) := by decide +kernel
theorem dX12_hasJump_17 : decode cX12_hasJump 17 = .ok (.aload_n 0, 1) := by decide +kernel
theorem dX12_hasJump_18 : decode cX12_hasJump 18 = .ok (.getfield 107, 3) := by decide +kernel
theorem dX12_hasJump_21 : decode cX12_hasJump 21 = .ok (.aload_n 0, 1) := by decide +kernel
theorem dX12_hasJump_22 : decode cX12_hasJump 22 = .ok (.iconst 4, 1) := by decide +kernel
theorem dX12_hasJump_23 : decode cX12_hasJump 23 = .ok (.iload_n 2, 1) := by decide +kernel
theorem dX12_hasJump_24 : decode cX12_hasJump 24 = .ok (.iconst 1, 1) := by decide +kernel
theorem dX12_hasJump_25 : decode cX12_hasJump 25 = .ok (.isub, 1) := by decide +kernel
theorem dX12_hasJump_26 : decode cX12_hasJump 26 = .ok (.iload_n 1, 1) := by decide +kernel
theorem dX12_hasJump_27 : decode cX12_hasJump 27 = .ok (.invokevirtual 383, 3) := by decide +kernel
theorem dX12_hasJump_30 : decode cX12_hasJump 30 = .ok (.iaload, 1) := by decide +kernel
theorem dX12_hasJump_31 : decode cX12_hasJump 31 = .ok (.iconst 1, 1) := by decide +kernel
theorem dX12_hasJump_32 : decode cX12_hasJump 32 = .ok (.if_icmp .ne 7, 3) := by decide +kernel
theorem dX12_hasJump_35 : decode cX12_hasJump 35 = .ok (.iconst 1, 1) := by decide +kernel
theorem dX12_hasJump_36 : decode cX12_hasJump 36 = .ok (.goto 4, 3) := by decide +kernel
theorem dX12_hasJump_39 : decode cX12_hasJump 39 = .ok (.iconst 0, 1) := by decide +kernel
theorem dX12_hasJump_40 : decode cX12_hasJump 40 = .ok (.ireturn, 1) := by decide +kernel
theorem dX12_jump_0 : decode cX12_jump 0 = .ok (.aload_n 0, 1) := by decide +kernel
theorem dX12_jump_1 : decode cX12_jump 1 = .ok (.iload_n 1, 1) := by decide +kernel
theorem dX12_jump_2 : decode cX12_jump 2 = .ok (.iload_n 2, 1) := by decide +kernel
theorem dX12_jump_3 : decode cX12_jump 3 = .ok (.invokevirtual 419, 3) := by decide +kernel
theorem dX12_jump_6 : decode cX12_jump 6 = .ok (.ifCond .eq 13, 3) := by decide +kernel
theorem dX12_jump_9 : decode cX12_jump 9 = .ok (.iload_n 3, 1) := by decide +kernel
theorem dX12_jump_10 : decode cX12_jump 10 = .ok (.iconst 0, 1) := by decide +kernel
theorem dX12_jump_11 : decode cX12_jump 11 = .ok (.bipush 7, 2) := by decide +kernel
theorem dX12_jump_13 : decode cX12_jump 13 = .ok (.invokestatic 293, 3) := by decide +kernel
theorem dX12_jump_16 : decode cX12_jump 16 = .ok (.ifCond .ne 7, 3) := by decide +kernel
theorem dX12_jump_19 : decode cX12_jump 19 = .ok (.sipush (-10000), 3) := by decide +kernel
theorem dX12_jump_22 : decode cX12_jump 22 = .ok (.ireturn, 1) := by decide +kernel
theorem dX12_jump_23 : decode cX12_jump 23 = .ok (.aload_n 0, 1) := by decide +kernel
theorem dX12_jump_24 : decode cX12_jump 24 = .ok (.getfield 107, 3) := by decide +kernel
theorem dX12_jump_27 : decode cX12_jump 27 = .ok (.aload_n 0, 1) := by decide +kernel
theorem dX12_jump_28 : decode cX12_jump 28 = .ok (.bipush 20, 2) := by decide +kernel
theorem dX12_jump_30 : decode cX12_jump 30 = .ok (.bipush 16, 2) := by decide +kernel
theorem dX12_jump_32 : decode cX12_jump 32 = .ok (.iload_n 3, 1) := by decide +kernel
theorem dX12_jump_33 : decode cX12_jump 33 = .ok (.imul, 1) := by decide +kernel
theorem dX12_jump_34 : decode cX12_jump 34 = .ok (.iadd, 1) := by decide +kernel
theorem dX12_jump_35 : decode cX12_jump 35 = .ok (.iload_n 2, 1) := by decide +kernel
theorem dX12_jump_36 : decode cX12_jump 36 = .ok (.iconst 1, 1) := by decide +kernel
theorem dX12_jump_37 : decode cX12_jump 37 = .ok (.isub, 1) := by decide +kernel
theorem dX12_jump_38 : decode cX12_jump 38 = .ok (.iload_n 1, 1) := by decide +kernel
theorem dX12_jump_39 : decode cX12_jump 39 = .ok (.invokevirtual 383, 3) := by decide +kernel
theorem dX12_jump_42 : decode cX12_jump 42 = .ok (.iaload, 1) := by decide +kernel
theorem dX12_jump_43 : decode cX12_jump 43 = .ok (.ireturn, 1) := by decide +kernel
theorem dX12_mark_0 : decode cX12_mark 0 = .ok (.aload_n 0, 1) := by decide +kernel
theorem dX12_mark_1 : decode cX12_mark 1 = .ok (.iload_n 1, 1) := by decide +kernel
theorem dX12_mark_2 : decode cX12_mark 2 = .ok (.iload_n 2, 1) := by decide +kernel
theorem dX12_mark_3 : decode cX12_mark 3 = .ok (.invokevirtual 419, 3) := by decide +kernel
theorem dX12_mark_6 : decode cX12_mark 6 = .ok (.ifCond .eq 36, 3) := by decide +kernel
theorem dX12_mark_9 : decode cX12_mark 9 = .ok (.aload_n 0, 1) := by decide +kernel
theorem dX12_mark_10 : decode cX12_mark 10 = .ok (.iload_n 3, 1) := by decide +kernel
theorem dX12_mark_11 : decode cX12_mark 11 = .ok (.invokevirtual 422, 3) := by decide +kernel
theorem dX12_mark_14 : decode cX12_mark 14 = .ok (.ifCond .eq 28, 3) := by decide +kernel
theorem dX12_mark_17 : decode cX12_mark 17 = .ok (.aload_n 0, 1) := by decide +kernel
theorem dX12_mark_18 : decode cX12_mark 18 = .ok (.getfield 107, 3) := by decide +kernel
theorem dX12_mark_21 : decode cX12_mark 21 = .ok (.sipush 148, 3) := by decide +kernel
theorem dX12_mark_24 : decode cX12_mark 24 = .ok (.bipush 7, 2) := by decide +kernel
theorem dX12_mark_26 : decode cX12_mark 26 = .ok (.bipush 8, 2) := by decide +kernel
theorem dX12_mark_28 : decode cX12_mark 28 = .ok (.iload_n 2, 1) := by decide +kernel
theorem dX12_mark_29 : decode cX12_mark 29 = .ok (.iconst 1, 1) := by decide +kernel
theorem dX12_mark_30 : decode cX12_mark 30 = .ok (.isub, 1) := by decide +kernel
theorem dX12_mark_31 : decode cX12_mark 31 = .ok (.imul, 1) := by decide +kernel
theorem dX12_mark_32 : decode cX12_mark 32 = .ok (.iload_n 1, 1) := by decide +kernel
theorem dX12_mark_33 : decode cX12_mark 33 = .ok (.iadd, 1) := by decide +kernel
theorem dX12_mark_34 : decode cX12_mark 34 = .ok (.imul, 1) := by decide +kernel
theorem dX12_mark_35 : decode cX12_mark 35 = .ok (.iadd, 1) := by decide +kernel
theorem dX12_mark_36 : decode cX12_mark 36 = .ok (.iload_n 3, 1) := by decide +kernel
theorem dX12_mark_37 : decode cX12_mark 37 = .ok (.iadd, 1) := by decide +kernel
theorem dX12_mark_38 : decode cX12_mark 38 = .ok (.iaload, 1) := by decide +kernel
theorem dX12_mark_39 : decode cX12_mark 39 = .ok (.goto 6, 3) := by decide +kernel
theorem dX12_mark_42 : decode cX12_mark 42 = .ok (.sipush (-10000), 3) := by decide +kernel
theorem dX12_mark_45 : decode cX12_mark 45 = .ok (.ireturn, 1) := by decide +kernel
theorem dX12_points_0 : decode cX12_points 0 = .ok (.aload_n 0, 1) := by decide +kernel
theorem dX12_points_1 : decode cX12_points 1 = .ok (.iload_n 1, 1) := by decide +kernel
theorem dX12_points_2 : decode cX12_points 2 = .ok (.invokevirtual 416, 3) := by decide +kernel
theorem dX12_points_5 : decode cX12_points 5 = .ok (.ifCond .ne 5, 3) := by decide +kernel
theorem dX12_points_8 : decode cX12_points 8 = .ok (.iconst (-1), 1) := by decide +kernel
theorem dX12_points_9 : decode cX12_points 9 = .ok (.ireturn, 1) := by decide +kernel
theorem dX12_points_10 : decode cX12_points 10 = .ok (.aload_n 0, 1) := by decide +kernel
theorem dX12_points_11 : decode cX12_points 11 = .ok (.invokevirtual 412, 3) := by decide +kernel
theorem dX12_points_14 : decode cX12_points 14 = .ok (.aload_n 0, 1) := by decide +kernel
theorem dX12_points_15 : decode cX12_points 15 = .ok (.iload_n 1, 1) := by decide +kernel
theorem dX12_points_16 : decode cX12_points 16 = .ok (.invokevirtual 386, 3) := by decide +kernel
theorem dX12_points_19 : decode cX12_points 19 = .ok (.ireturn, 1) := by decide +kernel
theorem dX12_rank_0 : decode cX12_rank 0 = .ok (.aload_n 0, 1) := by decide +kernel
theorem dX12_rank_1 : decode cX12_rank 1 = .ok (.iload_n 1, 1) := by decide +kernel
theorem dX12_rank_2 : decode cX12_rank 2 = .ok (.invokevirtual 416, 3) := by decide +kernel
theorem dX12_rank_5 : decode cX12_rank 5 = .ok (.ifCond .ne 5, 3) := by decide +kernel
theorem dX12_rank_8 : decode cX12_rank 8 = .ok (.iconst (-1), 1) := by decide +kernel
theorem dX12_rank_9 : decode cX12_rank 9 = .ok (.ireturn, 1) := by decide +kernel
theorem dX12_rank_10 : decode cX12_rank 10 = .ok (.aload_n 0, 1) := by decide +kernel
theorem dX12_rank_11 : decode cX12_rank 11 = .ok (.invokevirtual 412, 3) := by decide +kernel
theorem dX12_rank_14 : decode cX12_rank 14 = .ok (.aload_n 0, 1) := by decide +kernel
theorem dX12_rank_15 : decode cX12_rank 15 = .ok (.iload_n 1, 1) := by decide +kernel
theorem dX12_rank_16 : decode cX12_rank 16 = .ok (.iconst 2, 1) := by decide +kernel
theorem dX12_rank_17 : decode cX12_rank 17 = .ok (.invokevirtual 389, 3) := by decide +kernel
theorem dX12_rank_20 : decode cX12_rank 20 = .ok (.ireturn, 1) := by decide +kernel
theorem dX12_ranked_0 : decode cX12_ranked 0 = .ok (.aload_n 0, 1) := by decide +kernel
theorem dX12_ranked_1 : decode cX12_ranked 1 = .ok (.iload_n 1, 1) := by decide +kernel
theorem dX12_ranked_2 : decode cX12_ranked 2 = .ok (.invokevirtual 416, 3) := by decide +kernel
theorem dX12_ranked_5 : decode cX12_ranked 5 = .ok (.ifCond .ne 5, 3) := by decide +kernel
theorem dX12_ranked_8 : decode cX12_ranked 8 = .ok (.iconst (-1), 1) := by decide +kernel
theorem dX12_ranked_9 : decode cX12_ranked 9 = .ok (.ireturn, 1) := by decide +kernel
theorem dX12_ranked_10 : decode cX12_ranked 10 = .ok (.aload_n 0, 1) := by decide +kernel
theorem dX12_ranked_11 : decode cX12_ranked 11 = .ok (.invokevirtual 412, 3) := by decide +kernel
theorem dX12_ranked_14 : decode cX12_ranked 14 = .ok (.iconst 0, 1) := by decide +kernel
theorem dX12_ranked_15 : decode cX12_ranked 15 = .ok (.istore_n 2, 1) := by decide +kernel
theorem dX12_ranked_16 : decode cX12_ranked 16 = .ok (.iload_n 2, 1) := by decide +kernel
theorem dX12_ranked_17 : decode cX12_ranked 17 = .ok (.aload_n 0, 1) := by decide +kernel
theorem dX12_ranked_18 : decode cX12_ranked 18 = .ok (.getfield 46, 3) := by decide +kernel
theorem dX12_ranked_21 : decode cX12_ranked 21 = .ok (.aload_n 0, 1) := by decide +kernel
theorem dX12_ranked_22 : decode cX12_ranked 22 = .ok (.getfield 218, 3) := by decide +kernel
theorem dX12_ranked_25 : decode cX12_ranked 25 = .ok (.iaload, 1) := by decide +kernel
theorem dX12_ranked_26 : decode cX12_ranked 26 = .ok (.if_icmp .ge 21, 3) := by decide +kernel
theorem dX12_ranked_29 : decode cX12_ranked 29 = .ok (.aload_n 0, 1) := by decide +kernel
theorem dX12_ranked_30 : decode cX12_ranked 30 = .ok (.iload_n 2, 1) := by decide +kernel
theorem dX12_ranked_31 : decode cX12_ranked 31 = .ok (.iconst 2, 1) := by decide +kernel
theorem dX12_ranked_32 : decode cX12_ranked 32 = .ok (.invokevirtual 389, 3) := by decide +kernel
theorem dX12_ranked_35 : decode cX12_ranked 35 = .ok (.iload_n 1, 1) := by decide +kernel
theorem dX12_ranked_36 : decode cX12_ranked 36 = .ok (.if_icmp .ne 5, 3) := by decide +kernel
theorem dX12_ranked_39 : decode cX12_ranked 39 = .ok (.iload_n 2, 1) := by decide +kernel
theorem dX12_ranked_40 : decode cX12_ranked 40 = .ok (.ireturn, 1) := by decide +kernel
theorem dX12_ranked_41 : decode cX12_ranked 41 = .ok (.iinc 2 1, 3) := by decide +kernel
theorem dX12_ranked_44 : decode cX12_ranked 44 = .ok (.goto (-28), 3) := by decide +kernel
theorem dX12_ranked_47 : decode cX12_ranked 47 = .ok (.iconst (-1), 1) := by decide +kernel
theorem dX12_ranked_48 : decode cX12_ranked 48 = .ok (.ireturn, 1) := by decide +kernel
theorem dX12_keeps_0 : decode cX12_keeps 0 = .ok (.aload_n 0, 1) := by decide +kernel
theorem dX12_keeps_1 : decode cX12_keeps 1 = .ok (.getfield 236, 3) := by decide +kernel
theorem dX12_keeps_4 : decode cX12_keeps 4 = .ok (.bipush 40, 2) := by decide +kernel
theorem dX12_keeps_6 : decode cX12_keeps 6 = .ok (.if_icmp .ne 44, 3) := by decide +kernel
theorem dX12_keeps_9 : decode cX12_keeps 9 = .ok (.iconst 0, 1) := by decide +kernel
theorem dX12_keeps_10 : decode cX12_keeps 10 = .ok (.istore_n 1, 1) := by decide +kernel
theorem dX12_keeps_11 : decode cX12_keeps 11 = .ok (.iload_n 1, 1) := by decide +kernel
theorem dX12_keeps_12 : decode cX12_keeps 12 = .ok (.sipush 10140, 3) := by decide +kernel
theorem dX12_keeps_15 : decode cX12_keeps 15 = .ok (.if_icmp .ge 25, 3) := by decide +kernel
theorem dX12_keeps_18 : decode cX12_keeps 18 = .ok (.aload_n 0, 1) := by decide +kernel
theorem dX12_keeps_19 : decode cX12_keeps 19 = .ok (.getfield 119, 3) := by decide +kernel
theorem dX12_keeps_22 : decode cX12_keeps 22 = .ok (.iload_n 1, 1) := by decide +kernel
theorem dX12_keeps_23 : decode cX12_keeps 23 = .ok (.aload_n 0, 1) := by decide +kernel
theorem dX12_keeps_24 : decode cX12_keeps 24 = .ok (.getfield 119, 3) := by decide +kernel
theorem dX12_keeps_27 : decode cX12_keeps 27 = .ok (.iload_n 1, 1) := by decide +kernel
theorem dX12_keeps_28 : decode cX12_keeps 28 = .ok (.sipush 260, 3) := by decide +kernel
theorem dX12_keeps_31 : decode cX12_keeps 31 = .ok (.iadd, 1) := by decide +kernel
theorem dX12_keeps_32 : decode cX12_keeps 32 = .ok (.iaload, 1) := by decide +kernel
theorem dX12_keeps_33 : decode cX12_keeps 33 = .ok (.iastore, 1) := by decide +kernel
theorem dX12_keeps_34 : decode cX12_keeps 34 = .ok (.iinc 1 1, 3) := by decide +kernel
theorem dX12_keeps_37 : decode cX12_keeps 37 = .ok (.goto (-26), 3) := by decide +kernel
theorem dX12_keeps_40 : decode cX12_keeps 40 = .ok (.aload_n 0, 1) := by decide +kernel
theorem dX12_keeps_41 : decode cX12_keeps 41 = .ok (.dup, 1) := by decide +kernel
theorem dX12_keeps_42 : decode cX12_keeps 42 = .ok (.getfield 236, 3) := by decide +kernel
theorem dX12_keeps_45 : decode cX12_keeps 45 = .ok (.iconst 1, 1) := by decide +kernel
theorem dX12_keeps_46 : decode cX12_keeps 46 = .ok (.isub, 1) := by decide +kernel
theorem dX12_keeps_47 : decode cX12_keeps 47 = .ok (.putfield 236, 3) := by decide +kernel
theorem dX12_keeps_50 : decode cX12_keeps 50 = .ok (.iconst 0, 1) := by decide +kernel
theorem dX12_keeps_51 : decode cX12_keeps 51 = .ok (.istore_n 1, 1) := by decide +kernel
theorem dX12_keeps_52 : decode cX12_keeps 52 = .ok (.iload_n 1, 1) := by decide +kernel
theorem dX12_keeps_53 : decode cX12_keeps 53 = .ok (.sipush 260, 3) := by decide +kernel
theorem dX12_keeps_56 : decode cX12_keeps 56 = .ok (.if_icmp .ge 30, 3) := by decide +kernel
theorem dX12_keeps_59 : decode cX12_keeps 59 = .ok (.aload_n 0, 1) := by decide +kernel
theorem dX12_keeps_60 : decode cX12_keeps 60 = .ok (.getfield 119, 3) := by decide +kernel
theorem dX12_keeps_63 : decode cX12_keeps 63 = .ok (.sipush 260, 3) := by decide +kernel
theorem dX12_keeps_66 : decode cX12_keeps 66 = .ok (.aload_n 0, 1) := by decide +kernel
theorem dX12_keeps_67 : decode cX12_keeps 67 = .ok (.getfield 236, 3) := by decide +kernel
theorem dX12_keeps_70 : decode cX12_keeps 70 = .ok (.imul, 1) := by decide +kernel
theorem dX12_keeps_71 : decode cX12_keeps 71 = .ok (.iload_n 1, 1) := by decide +kernel
theorem dX12_keeps_72 : decode cX12_keeps 72 = .ok (.iadd, 1) := by decide +kernel
theorem dX12_keeps_73 : decode cX12_keeps 73 = .ok (.aload_n 0, 1) := by decide +kernel
theorem dX12_keeps_74 : decode cX12_keeps 74 = .ok (.getfield 107, 3) := by decide +kernel
theorem dX12_keeps_77 : decode cX12_keeps 77 = .ok (.iload_n 1, 1) := by decide +kernel
theorem dX12_keeps_78 : decode cX12_keeps 78 = .ok (.iaload, 1) := by decide +kernel
theorem dX12_keeps_79 : decode cX12_keeps 79 = .ok (.iastore, 1) := by decide +kernel
theorem dX12_keeps_80 : decode cX12_keeps 80 = .ok (.iinc 1 1, 3) := by decide +kernel
theorem dX12_keeps_83 : decode cX12_keeps 83 = .ok (.goto (-31), 3) := by decide +kernel
theorem dX12_keeps_86 : decode cX12_keeps 86 = .ok (.aload_n 0, 1) := by decide +kernel
theorem dX12_keeps_87 : decode cX12_keeps 87 = .ok (.dup, 1) := by decide +kernel
theorem dX12_keeps_88 : decode cX12_keeps 88 = .ok (.getfield 236, 3) := by decide +kernel
theorem dX12_keeps_91 : decode cX12_keeps 91 = .ok (.iconst 1, 1) := by decide +kernel
theorem dX12_keeps_92 : decode cX12_keeps 92 = .ok (.iadd, 1) := by decide +kernel
theorem dX12_keeps_93 : decode cX12_keeps 93 = .ok (.putfield 236, 3) := by decide +kernel
theorem dX12_keeps_96 : decode cX12_keeps 96 = .ok (.aload_n 0, 1) := by decide +kernel
theorem dX12_keeps_97 : decode cX12_keeps 97 = .ok (.invokevirtual 148, 3) := by decide +kernel
theorem dX12_keeps_100 : decode cX12_keeps 100 = .ok (.return_, 1) := by decide +kernel
theorem dX12_start_0 : decode cX12_start 0 = .ok (.iload_n 1, 1) := by decide +kernel
theorem dX12_start_1 : decode cX12_start 1 = .ok (.iconst 1, 1) := by decide +kernel
theorem dX12_start_2 : decode cX12_start 2 = .ok (.bipush 16, 2) := by decide +kernel
theorem dX12_start_4 : decode cX12_start 4 = .ok (.invokestatic 293, 3) := by decide +kernel
theorem dX12_start_7 : decode cX12_start 7 = .ok (.ifCond .ne 5, 3) := by decide +kernel
theorem dX12_start_10 : decode cX12_start 10 = .ok (.iconst (-1), 1) := by decide +kernel
theorem dX12_start_11 : decode cX12_start 11 = .ok (.ireturn, 1) := by decide +kernel
theorem dX12_start_12 : decode cX12_start 12 = .ok (.aload_n 0, 1) := by decide +kernel
theorem dX12_start_13 : decode cX12_start 13 = .ok (.invokevirtual 412, 3) := by decide +kernel
theorem dX12_start_16 : decode cX12_start 16 = .ok (.iconst 0, 1) := by decide +kernel
theorem dX12_start_17 : decode cX12_start 17 = .ok (.istore_n 2, 1) := by decide +kernel
theorem dX12_start_18 : decode cX12_start 18 = .ok (.iload_n 2, 1) := by decide +kernel
theorem dX12_start_19 : decode cX12_start 19 = .ok (.iload_n 1, 1) := by decide +kernel
theorem dX12_start_20 : decode cX12_start 20 = .ok (.if_icmp .ge 20, 3) := by decide +kernel
theorem dX12_start_23 : decode cX12_start 23 = .ok (.aload_n 0, 1) := by decide +kernel
theorem dX12_start_24 : decode cX12_start 24 = .ok (.invokevirtual 400, 3) := by decide +kernel
theorem dX12_start_27 : decode cX12_start 27 = .ok (.ifCond .lt 13, 3) := by decide +kernel
theorem dX12_start_30 : decode cX12_start 30 = .ok (.aload_n 0, 1) := by decide +kernel
theorem dX12_start_31 : decode cX12_start 31 = .ok (.invokevirtual 425, 3) := by decide +kernel
theorem dX12_start_34 : decode cX12_start 34 = .ok (.iinc 2 1, 3) := by decide +kernel
theorem dX12_start_37 : decode cX12_start 37 = .ok (.goto (-19), 3) := by decide +kernel
theorem dX12_start_40 : decode cX12_start 40 = .ok (.iload_n 2, 1) := by decide +kernel
theorem dX12_start_41 : decode cX12_start 41 = .ok (.ifCond .ne 5, 3) := by decide +kernel
theorem dX12_start_44 : decode cX12_start 44 = .ok (.iconst (-1), 1) := by decide +kernel
theorem dX12_start_45 : decode cX12_start 45 = .ok (.ireturn, 1) := by decide +kernel
theorem dX12_start_46 : decode cX12_start 46 = .ok (.aload_n 0, 1) := by decide +kernel
theorem dX12_start_47 : decode cX12_start 47 = .ok (.invokevirtual 428, 3) := by decide +kernel
theorem dX12_start_50 : decode cX12_start 50 = .ok (.iload_n 2, 1) := by decide +kernel
theorem dX12_start_51 : decode cX12_start 51 = .ok (.ireturn, 1) := by decide +kernel
theorem dX12_letGo_0 : decode cX12_letGo 0 = .ok (.iload_n 1, 1) := by decide +kernel
theorem dX12_letGo_1 : decode cX12_letGo 1 = .ok (.iconst 0, 1) := by decide +kernel
theorem dX12_letGo_2 : decode cX12_letGo 2 = .ok (.aload_n 0, 1) := by decide +kernel
theorem dX12_letGo_3 : decode cX12_letGo 3 = .ok (.bipush 10, 2) := by decide +kernel
theorem dX12_letGo_5 : decode cX12_letGo 5 = .ok (.invokevirtual 297, 3) := by decide +kernel
theorem dX12_letGo_8 : decode cX12_letGo 8 = .ok (.invokestatic 293, 3) := by decide +kernel
theorem dX12_letGo_11 : decode cX12_letGo 11 = .ok (.ifCond .ne 5, 3) := by decide +kernel
theorem dX12_letGo_14 : decode cX12_letGo 14 = .ok (.iconst (-1), 1) := by decide +kernel
theorem dX12_letGo_15 : decode cX12_letGo 15 = .ok (.ireturn, 1) := by decide +kernel
theorem dX12_letGo_16 : decode cX12_letGo 16 = .ok (.aload_n 0, 1) := by decide +kernel
theorem dX12_letGo_17 : decode cX12_letGo 17 = .ok (.invokevirtual 412, 3) := by decide +kernel
theorem dX12_letGo_20 : decode cX12_letGo 20 = .ok (.aload_n 0, 1) := by decide +kernel
theorem dX12_letGo_21 : decode cX12_letGo 21 = .ok (.invokevirtual 400, 3) := by decide +kernel
theorem dX12_letGo_24 : decode cX12_letGo 24 = .ok (.istore_n 2, 1) := by decide +kernel
theorem dX12_letGo_25 : decode cX12_letGo 25 = .ok (.iload_n 2, 1) := by decide +kernel
theorem dX12_letGo_26 : decode cX12_letGo 26 = .ok (.ifCond .ge 5, 3) := by decide +kernel
theorem dX12_letGo_29 : decode cX12_letGo 29 = .ok (.iconst (-1), 1) := by decide +kernel
theorem dX12_letGo_30 : decode cX12_letGo 30 = .ok (.ireturn, 1) := by decide +kernel
theorem dX12_letGo_31 : decode cX12_letGo 31 = .ok (.aload_n 0, 1) := by decide +kernel
theorem dX12_letGo_32 : decode cX12_letGo 32 = .ok (.iload_n 2, 1) := by decide +kernel
theorem dX12_letGo_33 : decode cX12_letGo 33 = .ok (.aload_n 0, 1) := by decide +kernel
theorem dX12_letGo_34 : decode cX12_letGo 34 = .ok (.getfield 110, 3) := by decide +kernel
theorem dX12_letGo_37 : decode cX12_letGo 37 = .ok (.iconst 0, 1) := by decide +kernel
theorem dX12_letGo_38 : decode cX12_letGo 38 = .ok (.iaload, 1) := by decide +kernel
theorem dX12_letGo_39 : decode cX12_letGo 39 = .ok (.iload_n 1, 1) := by decide +kernel
theorem dX12_letGo_40 : decode cX12_letGo 40 = .ok (.iadd, 1) := by decide +kernel
theorem dX12_letGo_41 : decode cX12_letGo 41 = .ok (.invokevirtual 407, 3) := by decide +kernel
theorem dX12_letGo_44 : decode cX12_letGo 44 = .ok (.aload_n 0, 1) := by decide +kernel
theorem dX12_letGo_45 : decode cX12_letGo 45 = .ok (.invokevirtual 428, 3) := by decide +kernel
theorem dX12_letGo_48 : decode cX12_letGo 48 = .ok (.aload_n 0, 1) := by decide +kernel
theorem dX12_letGo_49 : decode cX12_letGo 49 = .ok (.getfield 365, 3) := by decide +kernel
theorem dX12_letGo_52 : decode cX12_letGo 52 = .ok (.ireturn, 1) := by decide +kernel
theorem dX12_gate_0 : decode cX12_gate 0 = .ok (.iload_n 1, 1) := by decide +kernel
theorem dX12_gate_1 : decode cX12_gate 1 = .ok (.iconst 0, 1) := by decide +kernel
theorem dX12_gate_2 : decode cX12_gate 2 = .ok (.bipush 40, 2) := by decide +kernel
theorem dX12_gate_4 : decode cX12_gate 4 = .ok (.invokestatic 293, 3) := by decide +kernel
theorem dX12_gate_7 : decode cX12_gate 7 = .ok (.ifCond .eq 13, 3) := by decide +kernel
theorem dX12_gate_10 : decode cX12_gate 10 = .ok (.aload_n 0, 1) := by decide +kernel
theorem dX12_gate_11 : decode cX12_gate 11 = .ok (.getfield 107, 3) := by decide +kernel
theorem dX12_gate_14 : decode cX12_gate 14 = .ok (.iconst 2, 1) := by decide +kernel
theorem dX12_gate_15 : decode cX12_gate 15 = .ok (.iaload, 1) := by decide +kernel
theorem dX12_gate_16 : decode cX12_gate 16 = .ok (.iload_n 1, 1) := by decide +kernel
theorem dX12_gate_17 : decode cX12_gate 17 = .ok (.if_icmp .ne 5, 3) := by decide +kernel
theorem dX12_gate_20 : decode cX12_gate 20 = .ok (.iconst 0, 1) := by decide +kernel
theorem dX12_gate_21 : decode cX12_gate 21 = .ok (.ireturn, 1) := by decide +kernel
theorem dX12_gate_22 : decode cX12_gate 22 = .ok (.aload_n 0, 1) := by decide +kernel
theorem dX12_gate_23 : decode cX12_gate 23 = .ok (.invokevirtual 412, 3) := by decide +kernel
theorem dX12_gate_26 : decode cX12_gate 26 = .ok (.aload_n 0, 1) := by decide +kernel
theorem dX12_gate_27 : decode cX12_gate 27 = .ok (.getfield 110, 3) := by decide +kernel
theorem dX12_gate_30 : decode cX12_gate 30 = .ok (.iconst 2, 1) := by decide +kernel
theorem dX12_gate_31 : decode cX12_gate 31 = .ok (.iload_n 1, 1) := by decide +kernel
theorem dX12_gate_32 : decode cX12_gate 32 = .ok (.iastore, 1) := by decide +kernel
theorem dX12_gate_33 : decode cX12_gate 33 = .ok (.aload_n 0, 1) := by decide +kernel
theorem dX12_gate_34 : decode cX12_gate 34 = .ok (.invokevirtual 428, 3) := by decide +kernel
theorem dX12_gate_37 : decode cX12_gate 37 = .ok (.iconst 1, 1) := by decide +kernel
theorem dX12_gate_38 : decode cX12_gate 38 = .ok (.ireturn, 1) := by decide +kernel
theorem dX12_pause_0 : decode cX12_pause 0 = .ok (.iload_n 1, 1) := by decide +kernel
theorem dX12_pause_1 : decode cX12_pause 1 = .ok (.iconst 1, 1) := by decide +kernel
theorem dX12_pause_2 : decode cX12_pause 2 = .ok (.sipush 999, 3) := by decide +kernel
theorem dX12_pause_5 : decode cX12_pause 5 = .ok (.invokestatic 293, 3) := by decide +kernel
theorem dX12_pause_8 : decode cX12_pause 8 = .ok (.ifCond .ne 5, 3) := by decide +kernel
theorem dX12_pause_11 : decode cX12_pause 11 = .ok (.iconst (-1), 1) := by decide +kernel
theorem dX12_pause_12 : decode cX12_pause 12 = .ok (.ireturn, 1) := by decide +kernel
theorem dX12_pause_13 : decode cX12_pause 13 = .ok (.aload_n 0, 1) := by decide +kernel
theorem dX12_pause_14 : decode cX12_pause 14 = .ok (.invokevirtual 412, 3) := by decide +kernel
theorem dX12_pause_17 : decode cX12_pause 17 = .ok (.aload_n 0, 1) := by decide +kernel
theorem dX12_pause_18 : decode cX12_pause 18 = .ok (.getfield 110, 3) := by decide +kernel
theorem dX12_pause_21 : decode cX12_pause 21 = .ok (.iconst 0, 1) := by decide +kernel
theorem dX12_pause_22 : decode cX12_pause 22 = .ok (.dup2, 1) := by decide +kernel
theorem dX12_pause_23 : decode cX12_pause 23 = .ok (.iaload, 1) := by decide +kernel
theorem dX12_pause_24 : decode cX12_pause 24 = .ok (.iload_n 1, 1) := by decide +kernel
theorem dX12_pause_25 : decode cX12_pause 25 = .ok (.iadd, 1) := by decide +kernel
theorem dX12_pause_26 : decode cX12_pause 26 = .ok (.iastore, 1) := by decide +kernel
theorem dX12_pause_27 : decode cX12_pause 27 = .ok (.aload_n 0, 1) := by decide +kernel
theorem dX12_pause_28 : decode cX12_pause 28 = .ok (.invokevirtual 428, 3) := by decide +kernel
theorem dX12_pause_31 : decode cX12_pause 31 = .ok (.aload_n 0, 1) := by decide +kernel
theorem dX12_pause_32 : decode cX12_pause 32 = .ok (.getfield 107, 3) := by decide +kernel
theorem dX12_pause_35 : decode cX12_pause 35 = .ok (.iconst 0, 1) := by decide +kernel
theorem dX12_pause_36 : decode cX12_pause 36 = .ok (.iaload, 1) := by decide +kernel
theorem dX12_pause_37 : decode cX12_pause 37 = .ok (.ireturn, 1) := by decide +kernel
theorem dX12_undo_0 : decode cX12_undo 0 = .ok (.aload_n 0, 1) := by decide +kernel
theorem dX12_undo_1 : decode cX12_undo 1 = .ok (.getfield 236, 3) := by decide +kernel
theorem dX12_undo_4 : decode cX12_undo 4 = .ok (.ifCond .ne 5, 3) := by decide +kernel
theorem dX12_undo_7 : decode cX12_undo 7 = .ok (.iconst 0, 1) := by decide +kernel
theorem dX12_undo_8 : decode cX12_undo 8 = .ok (.ireturn, 1) := by decide +kernel
theorem dX12_undo_9 : decode cX12_undo 9 = .ok (.aload_n 0, 1) := by decide +kernel
theorem dX12_undo_10 : decode cX12_undo 10 = .ok (.dup, 1) := by decide +kernel
theorem dX12_undo_11 : decode cX12_undo 11 = .ok (.getfield 236, 3) := by decide +kernel
theorem dX12_undo_14 : decode cX12_undo 14 = .ok (.iconst 1, 1) := by decide +kernel
theorem dX12_undo_15 : decode cX12_undo 15 = .ok (.isub, 1) := by decide +kernel
theorem dX12_undo_16 : decode cX12_undo 16 = .ok (.putfield 236, 3) := by decide +kernel
theorem dX12_undo_19 : decode cX12_undo 19 = .ok (.iconst 0, 1) := by decide +kernel
theorem dX12_undo_20 : decode cX12_undo 20 = .ok (.istore_n 1, 1) := by decide +kernel
theorem dX12_undo_21 : decode cX12_undo 21 = .ok (.iload_n 1, 1) := by decide +kernel
theorem dX12_undo_22 : decode cX12_undo 22 = .ok (.sipush 260, 3) := by decide +kernel
theorem dX12_undo_25 : decode cX12_undo 25 = .ok (.if_icmp .ge 30, 3) := by decide +kernel
theorem dX12_undo_28 : decode cX12_undo 28 = .ok (.aload_n 0, 1) := by decide +kernel
theorem dX12_undo_29 : decode cX12_undo 29 = .ok (.getfield 107, 3) := by decide +kernel
theorem dX12_undo_32 : decode cX12_undo 32 = .ok (.iload_n 1, 1) := by decide +kernel
theorem dX12_undo_33 : decode cX12_undo 33 = .ok (.aload_n 0, 1) := by decide +kernel
theorem dX12_undo_34 : decode cX12_undo 34 = .ok (.getfield 119, 3) := by decide +kernel
theorem dX12_undo_37 : decode cX12_undo 37 = .ok (.sipush 260, 3) := by decide +kernel
theorem dX12_undo_40 : decode cX12_undo 40 = .ok (.aload_n 0, 1) := by decide +kernel
theorem dX12_undo_41 : decode cX12_undo 41 = .ok (.getfield 236, 3) := by decide +kernel
theorem dX12_undo_44 : decode cX12_undo 44 = .ok (.imul, 1) := by decide +kernel
theorem dX12_undo_45 : decode cX12_undo 45 = .ok (.iload_n 1, 1) := by decide +kernel
theorem dX12_undo_46 : decode cX12_undo 46 = .ok (.iadd, 1) := by decide +kernel
theorem dX12_undo_47 : decode cX12_undo 47 = .ok (.iaload, 1) := by decide +kernel
theorem dX12_undo_48 : decode cX12_undo 48 = .ok (.iastore, 1) := by decide +kernel
theorem dX12_undo_49 : decode cX12_undo 49 = .ok (.iinc 1 1, 3) := by decide +kernel
theorem dX12_undo_52 : decode cX12_undo 52 = .ok (.goto (-31), 3) := by decide +kernel
theorem dX12_undo_55 : decode cX12_undo 55 = .ok (.iconst 1, 1) := by decide +kernel
theorem dX12_undo_56 : decode cX12_undo 56 = .ok (.ireturn, 1) := by decide +kernel
theorem dX12_tries_0 : decode cX12_tries 0 = .ok (.aload_n 0, 1) := by decide +kernel
theorem dX12_tries_1 : decode cX12_tries 1 = .ok (.invokevirtual 412, 3) := by decide +kernel
theorem dX12_tries_4 : decode cX12_tries 4 = .ok (.aload_n 0, 1) := by decide +kernel
theorem dX12_tries_5 : decode cX12_tries 5 = .ok (.iload_n 1, 1) := by decide +kernel
theorem dX12_tries_6 : decode cX12_tries 6 = .ok (.aload_n 0, 1) := by decide +kernel
theorem dX12_tries_7 : decode cX12_tries 7 = .ok (.getfield 110, 3) := by decide +kernel
theorem dX12_tries_10 : decode cX12_tries 10 = .ok (.iconst 0, 1) := by decide +kernel
theorem dX12_tries_11 : decode cX12_tries 11 = .ok (.iaload, 1) := by decide +kernel
theorem dX12_tries_12 : decode cX12_tries 12 = .ok (.iload_n 2, 1) := by decide +kernel
theorem dX12_tries_13 : decode cX12_tries 13 = .ok (.iadd, 1) := by decide +kernel
theorem dX12_tries_14 : decode cX12_tries 14 = .ok (.iload_n 3, 1) := by decide +kernel
theorem dX12_tries_15 : decode cX12_tries 15 = .ok (.aload_n 0, 1) := by decide +kernel
theorem dX12_tries_16 : decode cX12_tries 16 = .ok (.getfield 110, 3) := by decide +kernel
theorem dX12_tries_19 : decode cX12_tries 19 = .ok (.iconst 2, 1) := by decide +kernel
theorem dX12_tries_20 : decode cX12_tries 20 = .ok (.iaload, 1) := by decide +kernel
theorem dX12_tries_21 : decode cX12_tries 21 = .ok (.aload_n 0, 1) := by decide +kernel
theorem dX12_tries_22 : decode cX12_tries 22 = .ok (.getfield 110, 3) := by decide +kernel
theorem dX12_tries_25 : decode cX12_tries 25 = .ok (.iconst 3, 1) := by decide +kernel
theorem dX12_tries_26 : decode cX12_tries 26 = .ok (.iaload, 1) := by decide +kernel
theorem dX12_tries_27 : decode cX12_tries 27 = .ok (.invokevirtual 396, 3) := by decide +kernel
theorem dX12_tries_30 : decode cX12_tries 30 = .ok (.return_, 1) := by decide +kernel
theorem dX12_attempt_0 : decode cX12_attempt 0 = .ok (.aload_n 0, 1) := by decide +kernel
theorem dX12_attempt_1 : decode cX12_attempt 1 = .ok (.iload_n 1, 1) := by decide +kernel
theorem dX12_attempt_2 : decode cX12_attempt 2 = .ok (.invokevirtual 416, 3) := by decide +kernel
theorem dX12_attempt_5 : decode cX12_attempt 5 = .ok (.ifCond .eq 35, 3) := by decide +kernel
theorem dX12_attempt_8 : decode cX12_attempt 8 = .ok (.iload_n 2, 1) := by decide +kernel
theorem dX12_attempt_9 : decode cX12_attempt 9 = .ok (.iconst 0, 1) := by decide +kernel
theorem dX12_attempt_10 : decode cX12_attempt 10 = .ok (.sipush 999, 3) := by decide +kernel
theorem dX12_attempt_13 : decode cX12_attempt 13 = .ok (.invokestatic 293, 3) := by decide +kernel
theorem dX12_attempt_16 : decode cX12_attempt 16 = .ok (.ifCond .eq 24, 3) := by decide +kernel
theorem dX12_attempt_19 : decode cX12_attempt 19 = .ok (.iload_n 3, 1) := by decide +kernel
theorem dX12_attempt_20 : decode cX12_attempt 20 = .ok (.bipush (-9), 2) := by decide +kernel
theorem dX12_attempt_22 : decode cX12_attempt 22 = .ok (.bipush 9, 2) := by decide +kernel
theorem dX12_attempt_24 : decode cX12_attempt 24 = .ok (.invokestatic 293, 3) := by decide +kernel
theorem dX12_attempt_27 : decode cX12_attempt 27 = .ok (.ifCond .eq 13, 3) := by decide +kernel
theorem dX12_attempt_30 : decode cX12_attempt 30 = .ok (.iload 4, 2) := by decide +kernel
theorem dX12_attempt_32 : decode cX12_attempt 32 = .ok (.iconst 0, 1) := by decide +kernel
theorem dX12_attempt_33 : decode cX12_attempt 33 = .ok (.iconst 2, 1) := by decide +kernel
theorem dX12_attempt_34 : decode cX12_attempt 34 = .ok (.invokestatic 293, 3) := by decide +kernel
theorem dX12_attempt_37 : decode cX12_attempt 37 = .ok (.ifCond .ne 7, 3) := by decide +kernel
theorem dX12_attempt_40 : decode cX12_attempt 40 = .ok (.sipush (-10000), 3) := by decide +kernel
theorem dX12_attempt_43 : decode cX12_attempt 43 = .ok (.ireturn, 1) := by decide +kernel
theorem dX12_attempt_44 : decode cX12_attempt 44 = .ok (.aload_n 0, 1) := by decide +kernel
theorem dX12_attempt_45 : decode cX12_attempt 45 = .ok (.iload_n 1, 1) := by decide +kernel
theorem dX12_attempt_46 : decode cX12_attempt 46 = .ok (.iload_n 2, 1) := by decide +kernel
theorem dX12_attempt_47 : decode cX12_attempt 47 = .ok (.iload_n 3, 1) := by decide +kernel
theorem dX12_attempt_48 : decode cX12_attempt 48 = .ok (.invokevirtual 431, 3) := by decide +kernel
theorem dX12_attempt_51 : decode cX12_attempt 51 = .ok (.iload 4, 2) := by decide +kernel
theorem dX12_attempt_53 : decode cX12_attempt 53 = .ok (.ifCond .ne 10, 3) := by decide +kernel
theorem dX12_attempt_56 : decode cX12_attempt 56 = .ok (.aload_n 0, 1) := by decide +kernel
theorem dX12_attempt_57 : decode cX12_attempt 57 = .ok (.getfield 365, 3) := by decide +kernel
theorem dX12_attempt_60 : decode cX12_attempt 60 = .ok (.goto 20, 3) := by decide +kernel
theorem dX12_attempt_63 : decode cX12_attempt 63 = .ok (.iload 4, 2) := by decide +kernel
theorem dX12_attempt_65 : decode cX12_attempt 65 = .ok (.iconst 1, 1) := by decide +kernel
theorem dX12_attempt_66 : decode cX12_attempt 66 = .ok (.if_icmp .ne 10, 3) := by decide +kernel
theorem dX12_attempt_69 : decode cX12_attempt 69 = .ok (.aload_n 0, 1) := by decide +kernel
theorem dX12_attempt_70 : decode cX12_attempt 70 = .ok (.getfield 380, 3) := by decide +kernel
theorem dX12_attempt_73 : decode cX12_attempt 73 = .ok (.goto 7, 3) := by decide +kernel
theorem dX12_attempt_76 : decode cX12_attempt 76 = .ok (.aload_n 0, 1) := by decide +kernel
theorem dX12_attempt_77 : decode cX12_attempt 77 = .ok (.getfield 377, 3) := by decide +kernel
theorem dX12_attempt_80 : decode cX12_attempt 80 = .ok (.ireturn, 1) := by decide +kernel
theorem dX12_wait_0 : decode cX12_wait 0 = .ok (.aload_n 0, 1) := by decide +kernel
theorem dX12_wait_1 : decode cX12_wait 1 = .ok (.iload_n 1, 1) := by decide +kernel
theorem dX12_wait_2 : decode cX12_wait 2 = .ok (.invokevirtual 416, 3) := by decide +kernel
theorem dX12_wait_5 : decode cX12_wait 5 = .ok (.ifCond .eq 12, 3) := by decide +kernel
theorem dX12_wait_8 : decode cX12_wait 8 = .ok (.iload_n 2, 1) := by decide +kernel
theorem dX12_wait_9 : decode cX12_wait 9 = .ok (.iconst 0, 1) := by decide +kernel
theorem dX12_wait_10 : decode cX12_wait 10 = .ok (.iconst 3, 1) := by decide +kernel
theorem dX12_wait_11 : decode cX12_wait 11 = .ok (.invokestatic 293, 3) := by decide +kernel
theorem dX12_wait_14 : decode cX12_wait 14 = .ok (.ifCond .ne 5, 3) := by decide +kernel
theorem dX12_wait_17 : decode cX12_wait 17 = .ok (.iconst (-1), 1) := by decide +kernel
theorem dX12_wait_18 : decode cX12_wait 18 = .ok (.ireturn, 1) := by decide +kernel
theorem dX12_wait_19 : decode cX12_wait 19 = .ok (.iconst 0, 1) := by decide +kernel
theorem dX12_wait_20 : decode cX12_wait 20 = .ok (.istore_n 3, 1) := by decide +kernel
theorem dX12_wait_21 : decode cX12_wait 21 = .ok (.iconst (-1), 1) := by decide +kernel
theorem dX12_wait_22 : decode cX12_wait 22 = .ok (.istore 4, 2) := by decide +kernel
theorem dX12_wait_24 : decode cX12_wait 24 = .ok (.iconst 0, 1) := by decide +kernel
theorem dX12_wait_25 : decode cX12_wait 25 = .ok (.istore 5, 2) := by decide +kernel
theorem dX12_wait_27 : decode cX12_wait 27 = .ok (.iconst (-1), 1) := by decide +kernel
theorem dX12_wait_28 : decode cX12_wait 28 = .ok (.istore 6, 2) := by decide +kernel
theorem dX12_wait_30 : decode cX12_wait 30 = .ok (.iconst 0, 1) := by decide +kernel
theorem dX12_wait_31 : decode cX12_wait 31 = .ok (.istore 7, 2) := by decide +kernel
theorem dX12_wait_33 : decode cX12_wait 33 = .ok (.iload 7, 2) := by decide +kernel
theorem dX12_wait_35 : decode cX12_wait 35 = .ok (.aload_n 0, 1) := by decide +kernel
theorem dX12_wait_36 : decode cX12_wait 36 = .ok (.bipush 10, 2) := by decide +kernel
theorem dX12_wait_38 : decode cX12_wait 38 = .ok (.invokevirtual 297, 3) := by decide +kernel
theorem dX12_wait_41 : decode cX12_wait 41 = .ok (.if_icmp .gt 54, 3) := by decide +kernel
theorem dX12_wait_44 : decode cX12_wait 44 = .ok (.aload_n 0, 1) := by decide +kernel
theorem dX12_wait_45 : decode cX12_wait 45 = .ok (.iload_n 1, 1) := by decide +kernel
theorem dX12_wait_46 : decode cX12_wait 46 = .ok (.iload 7, 2) := by decide +kernel
theorem dX12_wait_48 : decode cX12_wait 48 = .ok (.iconst 0, 1) := by decide +kernel
theorem dX12_wait_49 : decode cX12_wait 49 = .ok (.invokevirtual 431, 3) := by decide +kernel
theorem dX12_wait_52 : decode cX12_wait 52 = .ok (.aload_n 0, 1) := by decide +kernel
theorem dX12_wait_53 : decode cX12_wait 53 = .ok (.getfield 365, 3) := by decide +kernel
theorem dX12_wait_56 : decode cX12_wait 56 = .ok (.iload 4, 2) := by decide +kernel
theorem dX12_wait_58 : decode cX12_wait 58 = .ok (.if_icmp .le 12, 3) := by decide +kernel
theorem dX12_wait_61 : decode cX12_wait 61 = .ok (.aload_n 0, 1) := by decide +kernel
theorem dX12_wait_62 : decode cX12_wait 62 = .ok (.getfield 365, 3) := by decide +kernel
theorem dX12_wait_65 : decode cX12_wait 65 = .ok (.istore 4, 2) := by decide +kernel
theorem dX12_wait_67 : decode cX12_wait 67 = .ok (.iload 7, 2) := by decide +kernel
theorem dX12_wait_69 : decode cX12_wait 69 = .ok (.istore_n 3, 1) := by decide +kernel
theorem dX12_wait_70 : decode cX12_wait 70 = .ok (.aload_n 0, 1) := by decide +kernel
theorem dX12_wait_71 : decode cX12_wait 71 = .ok (.getfield 380, 3) := by decide +kernel
theorem dX12_wait_74 : decode cX12_wait 74 = .ok (.iload 6, 2) := by decide +kernel
theorem dX12_wait_76 : decode cX12_wait 76 = .ok (.if_icmp .le 13, 3) := by decide +kernel
theorem dX12_wait_79 : decode cX12_wait 79 = .ok (.aload_n 0, 1) := by decide +kernel
theorem dX12_wait_80 : decode cX12_wait 80 = .ok (.getfield 380, 3) := by decide +kernel
theorem dX12_wait_83 : decode cX12_wait 83 = .ok (.istore 6, 2) := by decide +kernel
theorem dX12_wait_85 : decode cX12_wait 85 = .ok (.iload 7, 2) := by decide +kernel
theorem dX12_wait_87 : decode cX12_wait 87 = .ok (.istore 5, 2) := by decide +kernel
theorem dX12_wait_89 : decode cX12_wait 89 = .ok (.iinc 7 1, 3) := by decide +kernel
theorem dX12_wait_92 : decode cX12_wait 92 = .ok (.goto (-59), 3) := by decide +kernel
theorem dX12_wait_95 : decode cX12_wait 95 = .ok (.iload_n 2, 1) := by decide +kernel
theorem dX12_wait_96 : decode cX12_wait 96 = .ok (.ifCond .ne 7, 3) := by decide +kernel
theorem dX12_wait_99 : decode cX12_wait 99 = .ok (.iload_n 3, 1) := by decide +kernel
theorem dX12_wait_100 : decode cX12_wait 100 = .ok (.goto 25, 3) := by decide +kernel
theorem dX12_wait_103 : decode cX12_wait 103 = .ok (.iload_n 2, 1) := by decide +kernel
theorem dX12_wait_104 : decode cX12_wait 104 = .ok (.iconst 1, 1) := by decide +kernel
theorem dX12_wait_105 : decode cX12_wait 105 = .ok (.if_icmp .ne 8, 3) := by decide +kernel
theorem dX12_wait_108 : decode cX12_wait 108 = .ok (.iload 4, 2) := by decide +kernel
theorem dX12_wait_110 : decode cX12_wait 110 = .ok (.goto 15, 3) := by decide +kernel
theorem dX12_wait_113 : decode cX12_wait 113 = .ok (.iload_n 2, 1) := by decide +kernel
theorem dX12_wait_114 : decode cX12_wait 114 = .ok (.iconst 2, 1) := by decide +kernel
theorem dX12_wait_115 : decode cX12_wait 115 = .ok (.if_icmp .ne 8, 3) := by decide +kernel
theorem dX12_wait_118 : decode cX12_wait 118 = .ok (.iload 5, 2) := by decide +kernel
theorem dX12_wait_120 : decode cX12_wait 120 = .ok (.goto 5, 3) := by decide +kernel
theorem dX12_wait_123 : decode cX12_wait 123 = .ok (.iload 6, 2) := by decide +kernel
theorem dX12_wait_125 : decode cX12_wait 125 = .ok (.ireturn, 1) := by decide +kernel
theorem dX12_cost_0 : decode cX12_cost 0 = .ok (.aload_n 0, 1) := by decide +kernel
theorem dX12_cost_1 : decode cX12_cost 1 = .ok (.iload_n 1, 1) := by decide +kernel
theorem dX12_cost_2 : decode cX12_cost 2 = .ok (.invokevirtual 416, 3) := by decide +kernel
theorem dX12_cost_5 : decode cX12_cost 5 = .ok (.ifCond .eq 14, 3) := by decide +kernel
theorem dX12_cost_8 : decode cX12_cost 8 = .ok (.iload_n 2, 1) := by decide +kernel
theorem dX12_cost_9 : decode cX12_cost 9 = .ok (.bipush (-9), 2) := by decide +kernel
theorem dX12_cost_11 : decode cX12_cost 11 = .ok (.bipush 9, 2) := by decide +kernel
theorem dX12_cost_13 : decode cX12_cost 13 = .ok (.invokestatic 293, 3) := by decide +kernel
theorem dX12_cost_16 : decode cX12_cost 16 = .ok (.ifCond .ne 7, 3) := by decide +kernel
theorem dX12_cost_19 : decode cX12_cost 19 = .ok (.sipush (-10000), 3) := by decide +kernel
theorem dX12_cost_22 : decode cX12_cost 22 = .ok (.ireturn, 1) := by decide +kernel
theorem dX12_cost_23 : decode cX12_cost 23 = .ok (.aload_n 0, 1) := by decide +kernel
theorem dX12_cost_24 : decode cX12_cost 24 = .ok (.iload_n 1, 1) := by decide +kernel
theorem dX12_cost_25 : decode cX12_cost 25 = .ok (.iconst 0, 1) := by decide +kernel
theorem dX12_cost_26 : decode cX12_cost 26 = .ok (.iconst 0, 1) := by decide +kernel
theorem dX12_cost_27 : decode cX12_cost 27 = .ok (.invokevirtual 431, 3) := by decide +kernel
theorem dX12_cost_30 : decode cX12_cost 30 = .ok (.iload_n 3, 1) := by decide +kernel
theorem dX12_cost_31 : decode cX12_cost 31 = .ok (.ifCond .eq 10, 3) := by decide +kernel
theorem dX12_cost_34 : decode cX12_cost 34 = .ok (.aload_n 0, 1) := by decide +kernel
theorem dX12_cost_35 : decode cX12_cost 35 = .ok (.getfield 380, 3) := by decide +kernel
theorem dX12_cost_38 : decode cX12_cost 38 = .ok (.goto 7, 3) := by decide +kernel
theorem dX12_cost_41 : decode cX12_cost 41 = .ok (.aload_n 0, 1) := by decide +kernel
theorem dX12_cost_42 : decode cX12_cost 42 = .ok (.getfield 365, 3) := by decide +kernel
theorem dX12_cost_45 : decode cX12_cost 45 = .ok (.istore 4, 2) := by decide +kernel
theorem dX12_cost_47 : decode cX12_cost 47 = .ok (.aload_n 0, 1) := by decide +kernel
theorem dX12_cost_48 : decode cX12_cost 48 = .ok (.iload_n 1, 1) := by decide +kernel
theorem dX12_cost_49 : decode cX12_cost 49 = .ok (.iconst 0, 1) := by decide +kernel
theorem dX12_cost_50 : decode cX12_cost 50 = .ok (.iload_n 2, 1) := by decide +kernel
theorem dX12_cost_51 : decode cX12_cost 51 = .ok (.invokevirtual 431, 3) := by decide +kernel
theorem dX12_cost_54 : decode cX12_cost 54 = .ok (.iload 4, 2) := by decide +kernel
theorem dX12_cost_56 : decode cX12_cost 56 = .ok (.iload_n 3, 1) := by decide +kernel
theorem dX12_cost_57 : decode cX12_cost 57 = .ok (.ifCond .eq 10, 3) := by decide +kernel
theorem dX12_cost_60 : decode cX12_cost 60 = .ok (.aload_n 0, 1) := by decide +kernel
theorem dX12_cost_61 : decode cX12_cost 61 = .ok (.getfield 380, 3) := by decide +kernel
theorem dX12_cost_64 : decode cX12_cost 64 = .ok (.goto 7, 3) := by decide +kernel
theorem dX12_cost_67 : decode cX12_cost 67 = .ok (.aload_n 0, 1) := by decide +kernel
theorem dX12_cost_68 : decode cX12_cost 68 = .ok (.getfield 365, 3) := by decide +kernel
theorem dX12_cost_71 : decode cX12_cost 71 = .ok (.isub, 1) := by decide +kernel
theorem dX12_cost_72 : decode cX12_cost 72 = .ok (.ireturn, 1) := by decide +kernel
theorem dX12_pound_0 : decode cX12_pound 0 = .ok (.aload_n 0, 1) := by decide +kernel
theorem dX12_pound_1 : decode cX12_pound 1 = .ok (.iload_n 1, 1) := by decide +kernel
theorem dX12_pound_2 : decode cX12_pound 2 = .ok (.invokevirtual 416, 3) := by decide +kernel
theorem dX12_pound_5 : decode cX12_pound 5 = .ok (.ifCond .eq 23, 3) := by decide +kernel
theorem dX12_pound_8 : decode cX12_pound 8 = .ok (.iload_n 2, 1) := by decide +kernel
theorem dX12_pound_9 : decode cX12_pound 9 = .ok (.iconst 0, 1) := by decide +kernel
theorem dX12_pound_10 : decode cX12_pound 10 = .ok (.bipush 30, 2) := by decide +kernel
theorem dX12_pound_12 : decode cX12_pound 12 = .ok (.invokestatic 293, 3) := by decide +kernel
theorem dX12_pound_15 : decode cX12_pound 15 = .ok (.ifCond .eq 13, 3) := by decide +kernel
theorem dX12_pound_18 : decode cX12_pound 18 = .ok (.iload_n 3, 1) := by decide +kernel
theorem dX12_pound_19 : decode cX12_pound 19 = .ok (.iconst 0, 1) := by decide +kernel
theorem dX12_pound_20 : decode cX12_pound 20 = .ok (.bipush 60, 2) := by decide +kernel
theorem dX12_pound_22 : decode cX12_pound 22 = .ok (.invokestatic 293, 3) := by decide +kernel
theorem dX12_pound_25 : decode cX12_pound 25 = .ok (.ifCond .ne 7, 3) := by decide +kernel
theorem dX12_pound_28 : decode cX12_pound 28 = .ok (.sipush (-10000), 3) := by decide +kernel
theorem dX12_pound_31 : decode cX12_pound 31 = .ok (.ireturn, 1) := by decide +kernel
theorem dX12_pound_32 : decode cX12_pound 32 = .ok (.aload_n 0, 1) := by decide +kernel
theorem dX12_pound_33 : decode cX12_pound 33 = .ok (.iload_n 1, 1) := by decide +kernel
theorem dX12_pound_34 : decode cX12_pound 34 = .ok (.iconst 0, 1) := by decide +kernel
theorem dX12_pound_35 : decode cX12_pound 35 = .ok (.iconst 0, 1) := by decide +kernel
theorem dX12_pound_36 : decode cX12_pound 36 = .ok (.invokevirtual 431, 3) := by decide +kernel
theorem dX12_pound_39 : decode cX12_pound 39 = .ok (.aload_n 0, 1) := by decide +kernel
theorem dX12_pound_40 : decode cX12_pound 40 = .ok (.getfield 365, 3) := by decide +kernel
theorem dX12_pound_43 : decode cX12_pound 43 = .ok (.istore 4, 2) := by decide +kernel
theorem dX12_pound_45 : decode cX12_pound 45 = .ok (.aload_n 0, 1) := by decide +kernel
theorem dX12_pound_46 : decode cX12_pound 46 = .ok (.iload_n 2, 1) := by decide +kernel
theorem dX12_pound_47 : decode cX12_pound 47 = .ok (.putfield 356, 3) := by decide +kernel
theorem dX12_pound_50 : decode cX12_pound 50 = .ok (.aload_n 0, 1) := by decide +kernel
theorem dX12_pound_51 : decode cX12_pound 51 = .ok (.iload_n 3, 1) := by decide +kernel
theorem dX12_pound_52 : decode cX12_pound 52 = .ok (.putfield 359, 3) := by decide +kernel
theorem dX12_pound_55 : decode cX12_pound 55 = .ok (.aload_n 0, 1) := by decide +kernel
theorem dX12_pound_56 : decode cX12_pound 56 = .ok (.invokevirtual 362, 3) := by decide +kernel
theorem dX12_pound_59 : decode cX12_pound 59 = .ok (.aload_n 0, 1) := by decide +kernel
theorem dX12_pound_60 : decode cX12_pound 60 = .ok (.getfield 365, 3) := by decide +kernel
theorem dX12_pound_63 : decode cX12_pound 63 = .ok (.iload 4, 2) := by decide +kernel
theorem dX12_pound_65 : decode cX12_pound 65 = .ok (.isub, 1) := by decide +kernel
theorem dX12_pound_66 : decode cX12_pound 66 = .ok (.ireturn, 1) := by decide +kernel
theorem dX12_gain_0 : decode cX12_gain 0 = .ok (.aload_n 0, 1) := by decide +kernel
theorem dX12_gain_1 : decode cX12_gain 1 = .ok (.iload_n 1, 1) := by decide +kernel
theorem dX12_gain_2 : decode cX12_gain 2 = .ok (.invokevirtual 416, 3) := by decide +kernel
theorem dX12_gain_5 : decode cX12_gain 5 = .ok (.ifCond .ne 7, 3) := by decide +kernel
theorem dX12_gain_8 : decode cX12_gain 8 = .ok (.sipush (-10000), 3) := by decide +kernel
theorem dX12_gain_11 : decode cX12_gain 11 = .ok (.ireturn, 1) := by decide +kernel
theorem dX12_gain_12 : decode cX12_gain 12 = .ok (.aload_n 0, 1) := by decide +kernel
theorem dX12_gain_13 : decode cX12_gain 13 = .ok (.iload_n 1, 1) := by decide +kernel
theorem dX12_gain_14 : decode cX12_gain 14 = .ok (.iconst 0, 1) := by decide +kernel
theorem dX12_gain_15 : decode cX12_gain 15 = .ok (.iconst 0, 1) := by decide +kernel
theorem dX12_gain_16 : decode cX12_gain 16 = .ok (.invokevirtual 431, 3) := by decide +kernel
theorem dX12_gain_19 : decode cX12_gain 19 = .ok (.aload_n 0, 1) := by decide +kernel
theorem dX12_gain_20 : decode cX12_gain 20 = .ok (.getfield 380, 3) := by decide +kernel
theorem dX12_gain_23 : decode cX12_gain 23 = .ok (.istore_n 2, 1) := by decide +kernel
theorem dX12_gain_24 : decode cX12_gain 24 = .ok (.aload_n 0, 1) := by decide +kernel
theorem dX12_gain_25 : decode cX12_gain 25 = .ok (.iconst 0, 1) := by decide +kernel
theorem dX12_gain_26 : decode cX12_gain 26 = .ok (.putfield 347, 3) := by decide +kernel
theorem dX12_gain_29 : decode cX12_gain 29 = .ok (.aload_n 0, 1) := by decide +kernel
theorem dX12_gain_30 : decode cX12_gain 30 = .ok (.iconst 0, 1) := by decide +kernel
theorem dX12_gain_31 : decode cX12_gain 31 = .ok (.putfield 353, 3) := by decide +kernel
theorem dX12_gain_34 : decode cX12_gain 34 = .ok (.aload_n 0, 1) := by decide +kernel
theorem dX12_gain_35 : decode cX12_gain 35 = .ok (.invokevirtual 362, 3) := by decide +kernel
theorem dX12_gain_38 : decode cX12_gain 38 = .ok (.iload_n 2, 1) := by decide +kernel
theorem dX12_gain_39 : decode cX12_gain 39 = .ok (.aload_n 0, 1) := by decide +kernel
theorem dX12_gain_40 : decode cX12_gain 40 = .ok (.getfield 380, 3) := by decide +kernel
theorem dX12_gain_43 : decode cX12_gain 43 = .ok (.isub, 1) := by decide +kernel
theorem dX12_gain_44 : decode cX12_gain 44 = .ok (.ireturn, 1) := by decide +kernel
theorem dX12_number_0 : decode cX12_number 0 = .ok (.aload_n 0, 1) := by decide +kernel
theorem dX12_number_1 : decode cX12_number 1 = .ok (.iload_n 1, 1) := by decide +kernel
theorem dX12_number_2 : decode cX12_number 2 = .ok (.invokevirtual 416, 3) := by decide +kernel
theorem dX12_number_5 : decode cX12_number 5 = .ok (.ifCond .ne 7, 3) := by decide +kernel
theorem dX12_number_8 : decode cX12_number 8 = .ok (.sipush (-10000), 3) := by decide +kernel
theorem dX12_number_11 : decode cX12_number 11 = .ok (.ireturn, 1) := by decide +kernel
theorem dX12_number_12 : decode cX12_number 12 = .ok (.aload_n 0, 1) := by decide +kernel
theorem dX12_number_13 : decode cX12_number 13 = .ok (.iload_n 1, 1) := by decide +kernel
theorem dX12_number_14 : decode cX12_number 14 = .ok (.iconst 0, 1) := by decide +kernel
theorem dX12_number_15 : decode cX12_number 15 = .ok (.iconst 0, 1) := by decide +kernel
theorem dX12_number_16 : decode cX12_number 16 = .ok (.invokevirtual 431, 3) := by decide +kernel
theorem dX12_number_19 : decode cX12_number 19 = .ok (.aload_n 0, 1) := by decide +kernel
theorem dX12_number_20 : decode cX12_number 20 = .ok (.iconst 0, 1) := by decide +kernel
theorem dX12_number_21 : decode cX12_number 21 = .ok (.putfield 341, 3) := by decide +kernel
theorem dX12_number_24 : decode cX12_number 24 = .ok (.aload_n 0, 1) := by decide +kernel
theorem dX12_number_25 : decode cX12_number 25 = .ok (.invokevirtual 362, 3) := by decide +kernel
theorem dX12_number_28 : decode cX12_number 28 = .ok (.aload_n 0, 1) := by decide +kernel
theorem dX12_number_29 : decode cX12_number 29 = .ok (.getfield 380, 3) := by decide +kernel
theorem dX12_number_32 : decode cX12_number 32 = .ok (.istore_n 2, 1) := by decide +kernel
theorem dX12_number_33 : decode cX12_number 33 = .ok (.aload_n 0, 1) := by decide +kernel
theorem dX12_number_34 : decode cX12_number 34 = .ok (.aload_n 0, 1) := by decide +kernel
theorem dX12_number_35 : decode cX12_number 35 = .ok (.getfield 46, 3) := by decide +kernel
theorem dX12_number_38 : decode cX12_number 38 = .ok (.aload_n 0, 1) := by decide +kernel
theorem dX12_number_39 : decode cX12_number 39 = .ok (.getfield 218, 3) := by decide +kernel
theorem dX12_number_42 : decode cX12_number 42 = .ok (.iaload, 1) := by decide +kernel
theorem dX12_number_43 : decode cX12_number 43 = .ok (.iconst 1, 1) := by decide +kernel
theorem dX12_number_44 : decode cX12_number 44 = .ok (.isub, 1) := by decide +kernel
theorem dX12_number_45 : decode cX12_number 45 = .ok (.putfield 341, 3) := by decide +kernel
theorem dX12_number_48 : decode cX12_number 48 = .ok (.aload_n 0, 1) := by decide +kernel
theorem dX12_number_49 : decode cX12_number 49 = .ok (.invokevirtual 362, 3) := by decide +kernel
theorem dX12_number_52 : decode cX12_number 52 = .ok (.iload_n 2, 1) := by decide +kernel
theorem dX12_number_53 : decode cX12_number 53 = .ok (.aload_n 0, 1) := by decide +kernel
theorem dX12_number_54 : decode cX12_number 54 = .ok (.getfield 380, 3) := by decide +kernel
theorem dX12_number_57 : decode cX12_number 57 = .ok (.isub, 1) := by decide +kernel
theorem dX12_number_58 : decode cX12_number 58 = .ok (.ireturn, 1) := by decide +kernel
theorem dX12_isSafe_0 : decode cX12_isSafe 0 = .ok (.iconst 0, 1) := by decide +kernel
theorem dX12_isSafe_1 : decode cX12_isSafe 1 = .ok (.istore_n 2, 1) := by decide +kernel
theorem dX12_isSafe_2 : decode cX12_isSafe 2 = .ok (.iload_n 2, 1) := by decide +kernel
theorem dX12_isSafe_3 : decode cX12_isSafe 3 = .ok (.aload_n 0, 1) := by decide +kernel
theorem dX12_isSafe_4 : decode cX12_isSafe 4 = .ok (.getfield 46, 3) := by decide +kernel
theorem dX12_isSafe_7 : decode cX12_isSafe 7 = .ok (.aload_n 0, 1) := by decide +kernel
theorem dX12_isSafe_8 : decode cX12_isSafe 8 = .ok (.getfield 218, 3) := by decide +kernel
theorem dX12_isSafe_11 : decode cX12_isSafe 11 = .ok (.iaload, 1) := by decide +kernel
theorem dX12_isSafe_12 : decode cX12_isSafe 12 = .ok (.if_icmp .ge 58, 3) := by decide +kernel
theorem dX12_isSafe_15 : decode cX12_isSafe 15 = .ok (.iconst 0, 1) := by decide +kernel
theorem dX12_isSafe_16 : decode cX12_isSafe 16 = .ok (.istore_n 3, 1) := by decide +kernel
theorem dX12_isSafe_17 : decode cX12_isSafe 17 = .ok (.iload_n 3, 1) := by decide +kernel
theorem dX12_isSafe_18 : decode cX12_isSafe 18 = .ok (.bipush 10, 2) := by decide +kernel
theorem dX12_isSafe_20 : decode cX12_isSafe 20 = .ok (.if_icmp .ge 44, 3) := by decide +kernel
theorem dX12_isSafe_23 : decode cX12_isSafe 23 = .ok (.aload_n 0, 1) := by decide +kernel
theorem dX12_isSafe_24 : decode cX12_isSafe 24 = .ok (.iload_n 2, 1) := by decide +kernel
theorem dX12_isSafe_25 : decode cX12_isSafe 25 = .ok (.aload_n 0, 1) := by decide +kernel
theorem dX12_isSafe_26 : decode cX12_isSafe 26 = .ok (.getfield 110, 3) := by decide +kernel
theorem dX12_isSafe_29 : decode cX12_isSafe 29 = .ok (.iconst 0, 1) := by decide +kernel
theorem dX12_isSafe_30 : decode cX12_isSafe 30 = .ok (.iaload, 1) := by decide +kernel
theorem dX12_isSafe_31 : decode cX12_isSafe 31 = .ok (.iload_n 3, 1) := by decide +kernel
theorem dX12_isSafe_32 : decode cX12_isSafe 32 = .ok (.iadd, 1) := by decide +kernel
theorem dX12_isSafe_33 : decode cX12_isSafe 33 = .ok (.iconst 0, 1) := by decide +kernel
theorem dX12_isSafe_34 : decode cX12_isSafe 34 = .ok (.iload_n 1, 1) := by decide +kernel
theorem dX12_isSafe_35 : decode cX12_isSafe 35 = .ok (.aload_n 0, 1) := by decide +kernel
theorem dX12_isSafe_36 : decode cX12_isSafe 36 = .ok (.getfield 110, 3) := by decide +kernel
theorem dX12_isSafe_39 : decode cX12_isSafe 39 = .ok (.iconst 3, 1) := by decide +kernel
theorem dX12_isSafe_40 : decode cX12_isSafe 40 = .ok (.iaload, 1) := by decide +kernel
theorem dX12_isSafe_41 : decode cX12_isSafe 41 = .ok (.invokevirtual 396, 3) := by decide +kernel
theorem dX12_isSafe_44 : decode cX12_isSafe 44 = .ok (.aload_n 0, 1) := by decide +kernel
theorem dX12_isSafe_45 : decode cX12_isSafe 45 = .ok (.getfield 365, 3) := by decide +kernel
theorem dX12_isSafe_48 : decode cX12_isSafe 48 = .ok (.aload_n 0, 1) := by decide +kernel
theorem dX12_isSafe_49 : decode cX12_isSafe 49 = .ok (.iconst 1, 1) := by decide +kernel
theorem dX12_isSafe_50 : decode cX12_isSafe 50 = .ok (.invokevirtual 297, 3) := by decide +kernel
theorem dX12_isSafe_53 : decode cX12_isSafe 53 = .ok (.if_icmp .le 5, 3) := by decide +kernel
theorem dX12_isSafe_56 : decode cX12_isSafe 56 = .ok (.iconst 0, 1) := by decide +kernel
theorem dX12_isSafe_57 : decode cX12_isSafe 57 = .ok (.ireturn, 1) := by decide +kernel
theorem dX12_isSafe_58 : decode cX12_isSafe 58 = .ok (.iinc 3 1, 3) := by decide +kernel
theorem dX12_isSafe_61 : decode cX12_isSafe 61 = .ok (.goto (-44), 3) := by decide +kernel
theorem dX12_isSafe_64 : decode cX12_isSafe 64 = .ok (.iinc 2 1, 3) := by decide +kernel
theorem dX12_isSafe_67 : decode cX12_isSafe 67 = .ok (.goto (-65), 3) := by decide +kernel
theorem dX12_isSafe_70 : decode cX12_isSafe 70 = .ok (.iconst 1, 1) := by decide +kernel
theorem dX12_isSafe_71 : decode cX12_isSafe 71 = .ok (.ireturn, 1) := by decide +kernel
theorem dX12_gates_0 : decode cX12_gates 0 = .ok (.iload_n 1, 1) := by decide +kernel
theorem dX12_gates_1 : decode cX12_gates 1 = .ok (.iconst 0, 1) := by decide +kernel
theorem dX12_gates_2 : decode cX12_gates 2 = .ok (.iconst 1, 1) := by decide +kernel
theorem dX12_gates_3 : decode cX12_gates 3 = .ok (.invokestatic 293, 3) := by decide +kernel
theorem dX12_gates_6 : decode cX12_gates 6 = .ok (.ifCond .ne 5, 3) := by decide +kernel
theorem dX12_gates_9 : decode cX12_gates 9 = .ok (.iconst (-1), 1) := by decide +kernel
theorem dX12_gates_10 : decode cX12_gates 10 = .ok (.ireturn, 1) := by decide +kernel
theorem dX12_gates_11 : decode cX12_gates 11 = .ok (.aload_n 0, 1) := by decide +kernel
theorem dX12_gates_12 : decode cX12_gates 12 = .ok (.invokevirtual 412, 3) := by decide +kernel
theorem dX12_gates_15 : decode cX12_gates 15 = .ok (.bipush 40, 2) := by decide +kernel
theorem dX12_gates_17 : decode cX12_gates 17 = .ok (.istore_n 2, 1) := by decide +kernel
theorem dX12_gates_18 : decode cX12_gates 18 = .ok (.iload_n 2, 1) := by decide +kernel
theorem dX12_gates_19 : decode cX12_gates 19 = .ok (.ifCond .lt 17, 3) := by decide +kernel
theorem dX12_gates_22 : decode cX12_gates 22 = .ok (.aload_n 0, 1) := by decide +kernel
theorem dX12_gates_23 : decode cX12_gates 23 = .ok (.iload_n 2, 1) := by decide +kernel
theorem dX12_gates_24 : decode cX12_gates 24 = .ok (.invokevirtual 434, 3) := by decide +kernel
theorem dX12_gates_27 : decode cX12_gates 27 = .ok (.ifCond .ne 9, 3) := by decide +kernel
theorem dX12_gates_30 : decode cX12_gates 30 = .ok (.iinc 2 (-1), 3) := by decide +kernel
theorem dX12_gates_33 : decode cX12_gates 33 = .ok (.goto (-15), 3) := by decide +kernel
theorem dX12_gates_36 : decode cX12_gates 36 = .ok (.iload_n 2, 1) := by decide +kernel
theorem dX12_gates_37 : decode cX12_gates 37 = .ok (.ifCond .ge 6, 3) := by decide +kernel
theorem dX12_gates_40 : decode cX12_gates 40 = .ok (.bipush (-2), 2) := by decide +kernel
theorem dX12_gates_42 : decode cX12_gates 42 = .ok (.ireturn, 1) := by decide +kernel
theorem dX12_gates_43 : decode cX12_gates 43 = .ok (.iload_n 1, 1) := by decide +kernel
theorem dX12_gates_44 : decode cX12_gates 44 = .ok (.ifCond .ne 5, 3) := by decide +kernel
theorem dX12_gates_47 : decode cX12_gates 47 = .ok (.iload_n 2, 1) := by decide +kernel
theorem dX12_gates_48 : decode cX12_gates 48 = .ok (.ireturn, 1) := by decide +kernel
theorem dX12_gates_49 : decode cX12_gates 49 = .ok (.iconst 0, 1) := by decide +kernel
theorem dX12_gates_50 : decode cX12_gates 50 = .ok (.istore_n 3, 1) := by decide +kernel
theorem dX12_gates_51 : decode cX12_gates 51 = .ok (.iconst 0, 1) := by decide +kernel
theorem dX12_gates_52 : decode cX12_gates 52 = .ok (.istore 4, 2) := by decide +kernel
theorem dX12_gates_54 : decode cX12_gates 54 = .ok (.iload 4, 2) := by decide +kernel
theorem dX12_gates_56 : decode cX12_gates 56 = .ok (.aload_n 0, 1) := by decide +kernel
theorem dX12_gates_57 : decode cX12_gates 57 = .ok (.getfield 46, 3) := by decide +kernel
theorem dX12_gates_60 : decode cX12_gates 60 = .ok (.aload_n 0, 1) := by decide +kernel
theorem dX12_gates_61 : decode cX12_gates 61 = .ok (.getfield 218, 3) := by decide +kernel
theorem dX12_gates_64 : decode cX12_gates 64 = .ok (.iaload, 1) := by decide +kernel
theorem dX12_gates_65 : decode cX12_gates 65 = .ok (.if_icmp .ge 36, 3) := by decide +kernel
theorem dX12_gates_68 : decode cX12_gates 68 = .ok (.aload_n 0, 1) := by decide +kernel
theorem dX12_gates_69 : decode cX12_gates 69 = .ok (.iload 4, 2) := by decide +kernel
theorem dX12_gates_71 : decode cX12_gates 71 = .ok (.aload_n 0, 1) := by decide +kernel
theorem dX12_gates_72 : decode cX12_gates 72 = .ok (.getfield 110, 3) := by decide +kernel
theorem dX12_gates_75 : decode cX12_gates 75 = .ok (.iconst 0, 1) := by decide +kernel
theorem dX12_gates_76 : decode cX12_gates 76 = .ok (.iaload, 1) := by decide +kernel
theorem dX12_gates_77 : decode cX12_gates 77 = .ok (.iconst 0, 1) := by decide +kernel
theorem dX12_gates_78 : decode cX12_gates 78 = .ok (.iload_n 2, 1) := by decide +kernel
theorem dX12_gates_79 : decode cX12_gates 79 = .ok (.aload_n 0, 1) := by decide +kernel
theorem dX12_gates_80 : decode cX12_gates 80 = .ok (.getfield 110, 3) := by decide +kernel
theorem dX12_gates_83 : decode cX12_gates 83 = .ok (.iconst 3, 1) := by decide +kernel
theorem dX12_gates_84 : decode cX12_gates 84 = .ok (.iaload, 1) := by decide +kernel
theorem dX12_gates_85 : decode cX12_gates 85 = .ok (.invokevirtual 396, 3) := by decide +kernel
theorem dX12_gates_88 : decode cX12_gates 88 = .ok (.iload_n 3, 1) := by decide +kernel
theorem dX12_gates_89 : decode cX12_gates 89 = .ok (.aload_n 0, 1) := by decide +kernel
theorem dX12_gates_90 : decode cX12_gates 90 = .ok (.getfield 365, 3) := by decide +kernel
theorem dX12_gates_93 : decode cX12_gates 93 = .ok (.iadd, 1) := by decide +kernel
theorem dX12_gates_94 : decode cX12_gates 94 = .ok (.istore_n 3, 1) := by decide +kernel
theorem dX12_gates_95 : decode cX12_gates 95 = .ok (.iinc 4 1, 3) := by decide +kernel
theorem dX12_gates_98 : decode cX12_gates 98 = .ok (.goto (-44), 3) := by decide +kernel
theorem dX12_gates_101 : decode cX12_gates 101 = .ok (.iload_n 3, 1) := by decide +kernel
theorem dX12_gates_102 : decode cX12_gates 102 = .ok (.ireturn, 1) := by decide +kernel
theorem dX12_startsAll_0 : decode cX12_startsAll 0 = .ok (.aload_n 0, 1) := by decide +kernel
theorem dX12_startsAll_1 : decode cX12_startsAll 1 = .ok (.invokevirtual 400, 3) := by decide +kernel
theorem dX12_startsAll_4 : decode cX12_startsAll 4 = .ok (.ifCond .lt 10, 3) := by decide +kernel
theorem dX12_startsAll_7 : decode cX12_startsAll 7 = .ok (.aload_n 0, 1) := by decide +kernel
theorem dX12_startsAll_8 : decode cX12_startsAll 8 = .ok (.invokevirtual 425, 3) := by decide +kernel
theorem dX12_startsAll_11 : decode cX12_startsAll 11 = .ok (.goto (-11), 3) := by decide +kernel
theorem dX12_startsAll_14 : decode cX12_startsAll 14 = .ok (.return_, 1) := by decide +kernel
theorem dX12_crown_0 : decode cX12_crown 0 = .ok (.aload_n 0, 1) := by decide +kernel
theorem dX12_crown_1 : decode cX12_crown 1 = .ok (.iload_n 1, 1) := by decide +kernel
theorem dX12_crown_2 : decode cX12_crown 2 = .ok (.invokevirtual 416, 3) := by decide +kernel
theorem dX12_crown_5 : decode cX12_crown 5 = .ok (.ifCond .eq 13, 3) := by decide +kernel
theorem dX12_crown_8 : decode cX12_crown 8 = .ok (.iload_n 2, 1) := by decide +kernel
theorem dX12_crown_9 : decode cX12_crown 9 = .ok (.iconst 1, 1) := by decide +kernel
theorem dX12_crown_10 : decode cX12_crown 10 = .ok (.bipush 10, 2) := by decide +kernel
theorem dX12_crown_12 : decode cX12_crown 12 = .ok (.invokestatic 293, 3) := by decide +kernel
theorem dX12_crown_15 : decode cX12_crown 15 = .ok (.ifCond .ne 5, 3) := by decide +kernel
theorem dX12_crown_18 : decode cX12_crown 18 = .ok (.iconst (-1), 1) := by decide +kernel
theorem dX12_crown_19 : decode cX12_crown 19 = .ok (.ireturn, 1) := by decide +kernel
theorem dX12_crown_20 : decode cX12_crown 20 = .ok (.iconst 0, 1) := by decide +kernel
theorem dX12_crown_21 : decode cX12_crown 21 = .ok (.istore_n 3, 1) := by decide +kernel
theorem dX12_crown_22 : decode cX12_crown 22 = .ok (.iconst 0, 1) := by decide +kernel
theorem dX12_crown_23 : decode cX12_crown 23 = .ok (.istore 4, 2) := by decide +kernel
theorem dX12_crown_25 : decode cX12_crown 25 = .ok (.iload 4, 2) := by decide +kernel
theorem dX12_crown_27 : decode cX12_crown 27 = .ok (.iload_n 2, 1) := by decide +kernel
theorem dX12_crown_28 : decode cX12_crown 28 = .ok (.if_icmp .ge 40, 3) := by decide +kernel
theorem dX12_crown_31 : decode cX12_crown 31 = .ok (.aload_n 0, 1) := by decide +kernel
theorem dX12_crown_32 : decode cX12_crown 32 = .ok (.invokevirtual 412, 3) := by decide +kernel
theorem dX12_crown_35 : decode cX12_crown 35 = .ok (.aload_n 0, 1) := by decide +kernel
theorem dX12_crown_36 : decode cX12_crown 36 = .ok (.dup, 1) := by decide +kernel
theorem dX12_crown_37 : decode cX12_crown 37 = .ok (.getfield 303, 3) := by decide +kernel
theorem dX12_crown_40 : decode cX12_crown 40 = .ok (.iload 4, 2) := by decide +kernel
theorem dX12_crown_42 : decode cX12_crown 42 = .ok (.iadd, 1) := by decide +kernel
theorem dX12_crown_43 : decode cX12_crown 43 = .ok (.putfield 303, 3) := by decide +kernel
theorem dX12_crown_46 : decode cX12_crown 46 = .ok (.aload_n 0, 1) := by decide +kernel
theorem dX12_crown_47 : decode cX12_crown 47 = .ok (.invokevirtual 437, 3) := by decide +kernel
theorem dX12_crown_50 : decode cX12_crown 50 = .ok (.aload_n 0, 1) := by decide +kernel
theorem dX12_crown_51 : decode cX12_crown 51 = .ok (.iload_n 1, 1) := by decide +kernel
theorem dX12_crown_52 : decode cX12_crown 52 = .ok (.iconst 2, 1) := by decide +kernel
theorem dX12_crown_53 : decode cX12_crown 53 = .ok (.invokevirtual 389, 3) := by decide +kernel
theorem dX12_crown_56 : decode cX12_crown 56 = .ok (.ifCond .ne 6, 3) := by decide +kernel
theorem dX12_crown_59 : decode cX12_crown 59 = .ok (.iinc 3 1, 3) := by decide +kernel
theorem dX12_crown_62 : decode cX12_crown 62 = .ok (.iinc 4 1, 3) := by decide +kernel
theorem dX12_crown_65 : decode cX12_crown 65 = .ok (.goto (-40), 3) := by decide +kernel
theorem dX12_crown_68 : decode cX12_crown 68 = .ok (.iload_n 3, 1) := by decide +kernel
theorem dX12_crown_69 : decode cX12_crown 69 = .ok (.ireturn, 1) := by decide +kernel
theorem dX12_reversed_0 : decode cX12_reversed 0 = .ok (.aload_n 0, 1) := by decide +kernel
theorem dX12_reversed_1 : decode cX12_reversed 1 = .ok (.iload_n 1, 1) := by decide +kernel
theorem dX12_reversed_2 : decode cX12_reversed 2 = .ok (.invokevirtual 416, 3) := by decide +kernel
theorem dX12_reversed_5 : decode cX12_reversed 5 = .ok (.ifCond .ne 5, 3) := by decide +kernel
theorem dX12_reversed_8 : decode cX12_reversed 8 = .ok (.iconst (-1), 1) := by decide +kernel
theorem dX12_reversed_9 : decode cX12_reversed 9 = .ok (.ireturn, 1) := by decide +kernel
theorem dX12_reversed_10 : decode cX12_reversed 10 = .ok (.aload_n 0, 1) := by decide +kernel
theorem dX12_reversed_11 : decode cX12_reversed 11 = .ok (.invokevirtual 145, 3) := by decide +kernel
theorem dX12_reversed_14 : decode cX12_reversed 14 = .ok (.aload_n 0, 1) := by decide +kernel
theorem dX12_reversed_15 : decode cX12_reversed 15 = .ok (.iconst 1, 1) := by decide +kernel
theorem dX12_reversed_16 : decode cX12_reversed 16 = .ok (.putfield 306, 3) := by decide +kernel
theorem dX12_reversed_19 : decode cX12_reversed 19 = .ok (.aload_n 0, 1) := by decide +kernel
theorem dX12_reversed_20 : decode cX12_reversed 20 = .ok (.invokevirtual 437, 3) := by decide +kernel
theorem dX12_reversed_23 : decode cX12_reversed 23 = .ok (.aload_n 0, 1) := by decide +kernel
theorem dX12_reversed_24 : decode cX12_reversed 24 = .ok (.iload_n 1, 1) := by decide +kernel
theorem dX12_reversed_25 : decode cX12_reversed 25 = .ok (.iconst 2, 1) := by decide +kernel
theorem dX12_reversed_26 : decode cX12_reversed 26 = .ok (.invokevirtual 389, 3) := by decide +kernel
theorem dX12_reversed_29 : decode cX12_reversed 29 = .ok (.ireturn, 1) := by decide +kernel
theorem dX12_pointsWithout_0 : decode cX12_pointsWithout 0 = .ok (.aload_n 0, 1) := by decide +kernel
theorem dX12_pointsWithout_1 : decode cX12_pointsWithout 1 = .ok (.getfield 110, 3) := by decide +kernel
theorem dX12_pointsWithout_4 : decode cX12_pointsWithout 4 = .ok (.aload_n 0, 1) := by decide +kernel
theorem dX12_pointsWithout_5 : decode cX12_pointsWithout 5 = .ok (.iconst 4, 1) := by decide +kernel
theorem dX12_pointsWithout_6 : decode cX12_pointsWithout 6 = .ok (.iload_n 2, 1) := by decide +kernel
theorem dX12_pointsWithout_7 : decode cX12_pointsWithout 7 = .ok (.iload_n 1, 1) := by decide +kernel
theorem dX12_pointsWithout_8 : decode cX12_pointsWithout 8 = .ok (.invokevirtual 383, 3) := by decide +kernel
theorem dX12_pointsWithout_11 : decode cX12_pointsWithout 11 = .ok (.iaload, 1) := by decide +kernel
theorem dX12_pointsWithout_12 : decode cX12_pointsWithout 12 = .ok (.ifCond .ne 5, 3) := by decide +kernel
theorem dX12_pointsWithout_15 : decode cX12_pointsWithout 15 = .ok (.iconst 0, 1) := by decide +kernel
theorem dX12_pointsWithout_16 : decode cX12_pointsWithout 16 = .ok (.ireturn, 1) := by decide +kernel
theorem dX12_pointsWithout_17 : decode cX12_pointsWithout 17 = .ok (.aload_n 0, 1) := by decide +kernel
theorem dX12_pointsWithout_18 : decode cX12_pointsWithout 18 = .ok (.iload_n 1, 1) := by decide +kernel
theorem dX12_pointsWithout_19 : decode cX12_pointsWithout 19 = .ok (.aload_n 0, 1) := by decide +kernel
theorem dX12_pointsWithout_20 : decode cX12_pointsWithout 20 = .ok (.getfield 110, 3) := by decide +kernel
theorem dX12_pointsWithout_23 : decode cX12_pointsWithout 23 = .ok (.aload_n 0, 1) := by decide +kernel
theorem dX12_pointsWithout_24 : decode cX12_pointsWithout 24 = .ok (.bipush 84, 2) := by decide +kernel
theorem dX12_pointsWithout_26 : decode cX12_pointsWithout 26 = .ok (.iload_n 2, 1) := by decide +kernel
theorem dX12_pointsWithout_27 : decode cX12_pointsWithout 27 = .ok (.iload_n 1, 1) := by decide +kernel
theorem dX12_pointsWithout_28 : decode cX12_pointsWithout 28 = .ok (.invokevirtual 383, 3) := by decide +kernel
theorem dX12_pointsWithout_31 : decode cX12_pointsWithout 31 = .ok (.iaload, 1) := by decide +kernel
theorem dX12_pointsWithout_32 : decode cX12_pointsWithout 32 = .ok (.aload_n 0, 1) := by decide +kernel
theorem dX12_pointsWithout_33 : decode cX12_pointsWithout 33 = .ok (.getfield 110, 3) := by decide +kernel
theorem dX12_pointsWithout_36 : decode cX12_pointsWithout 36 = .ok (.aload_n 0, 1) := by decide +kernel
theorem dX12_pointsWithout_37 : decode cX12_pointsWithout 37 = .ok (.bipush 68, 2) := by decide +kernel
theorem dX12_pointsWithout_39 : decode cX12_pointsWithout 39 = .ok (.iload_n 2, 1) := by decide +kernel
theorem dX12_pointsWithout_40 : decode cX12_pointsWithout 40 = .ok (.iload_n 1, 1) := by decide +kernel
theorem dX12_pointsWithout_41 : decode cX12_pointsWithout 41 = .ok (.invokevirtual 383, 3) := by decide +kernel
theorem dX12_pointsWithout_44 : decode cX12_pointsWithout 44 = .ok (.iaload, 1) := by decide +kernel
theorem dX12_pointsWithout_45 : decode cX12_pointsWithout 45 = .ok (.aload_n 0, 1) := by decide +kernel
theorem dX12_pointsWithout_46 : decode cX12_pointsWithout 46 = .ok (.getfield 110, 3) := by decide +kernel
theorem dX12_pointsWithout_49 : decode cX12_pointsWithout 49 = .ok (.aload_n 0, 1) := by decide +kernel
theorem dX12_pointsWithout_50 : decode cX12_pointsWithout 50 = .ok (.bipush 100, 2) := by decide +kernel
theorem dX12_pointsWithout_52 : decode cX12_pointsWithout 52 = .ok (.iload_n 2, 1) := by decide +kernel
theorem dX12_pointsWithout_53 : decode cX12_pointsWithout 53 = .ok (.iload_n 1, 1) := by decide +kernel
theorem dX12_pointsWithout_54 : decode cX12_pointsWithout 54 = .ok (.invokevirtual 383, 3) := by decide +kernel
theorem dX12_pointsWithout_57 : decode cX12_pointsWithout 57 = .ok (.iaload, 1) := by decide +kernel
theorem dX12_pointsWithout_58 : decode cX12_pointsWithout 58 = .ok (.aload_n 0, 1) := by decide +kernel
theorem dX12_pointsWithout_59 : decode cX12_pointsWithout 59 = .ok (.getfield 110, 3) := by decide +kernel
theorem dX12_pointsWithout_62 : decode cX12_pointsWithout 62 = .ok (.aload_n 0, 1) := by decide +kernel
theorem dX12_pointsWithout_63 : decode cX12_pointsWithout 63 = .ok (.sipush 132, 3) := by decide +kernel
theorem dX12_pointsWithout_66 : decode cX12_pointsWithout 66 = .ok (.iload_n 2, 1) := by decide +kernel
theorem dX12_pointsWithout_67 : decode cX12_pointsWithout 67 = .ok (.iload_n 1, 1) := by decide +kernel
theorem dX12_pointsWithout_68 : decode cX12_pointsWithout 68 = .ok (.invokevirtual 383, 3) := by decide +kernel
theorem dX12_pointsWithout_71 : decode cX12_pointsWithout 71 = .ok (.iaload, 1) := by decide +kernel
theorem dX12_pointsWithout_72 : decode cX12_pointsWithout 72 = .ok (.invokevirtual 396, 3) := by decide +kernel
theorem dX12_pointsWithout_75 : decode cX12_pointsWithout 75 = .ok (.aload_n 0, 1) := by decide +kernel
theorem dX12_pointsWithout_76 : decode cX12_pointsWithout 76 = .ok (.iload_n 3, 1) := by decide +kernel
theorem dX12_pointsWithout_77 : decode cX12_pointsWithout 77 = .ok (.putfield 116, 3) := by decide +kernel
theorem dX12_pointsWithout_80 : decode cX12_pointsWithout 80 = .ok (.aload_n 0, 1) := by decide +kernel
theorem dX12_pointsWithout_81 : decode cX12_pointsWithout 81 = .ok (.invokevirtual 371, 3) := by decide +kernel
theorem dX12_pointsWithout_84 : decode cX12_pointsWithout 84 = .ok (.aload_n 0, 1) := by decide +kernel
theorem dX12_pointsWithout_85 : decode cX12_pointsWithout 85 = .ok (.invokevirtual 374, 3) := by decide +kernel
theorem dX12_pointsWithout_88 : decode cX12_pointsWithout 88 = .ok (.aload_n 0, 1) := by decide +kernel
theorem dX12_pointsWithout_89 : decode cX12_pointsWithout 89 = .ok (.iconst (-1), 1) := by decide +kernel
theorem dX12_pointsWithout_90 : decode cX12_pointsWithout 90 = .ok (.putfield 116, 3) := by decide +kernel
theorem dX12_pointsWithout_93 : decode cX12_pointsWithout 93 = .ok (.aload_n 0, 1) := by decide +kernel
theorem dX12_pointsWithout_94 : decode cX12_pointsWithout 94 = .ok (.getfield 380, 3) := by decide +kernel
theorem dX12_pointsWithout_97 : decode cX12_pointsWithout 97 = .ok (.ireturn, 1) := by decide +kernel
theorem dX12_without_0 : decode cX12_without 0 = .ok (.aload_n 0, 1) := by decide +kernel
theorem dX12_without_1 : decode cX12_without 1 = .ok (.iload_n 1, 1) := by decide +kernel
theorem dX12_without_2 : decode cX12_without 2 = .ok (.invokevirtual 416, 3) := by decide +kernel
theorem dX12_without_5 : decode cX12_without 5 = .ok (.ifCond .eq 11, 3) := by decide +kernel
theorem dX12_without_8 : decode cX12_without 8 = .ok (.aload_n 0, 1) := by decide +kernel
theorem dX12_without_9 : decode cX12_without 9 = .ok (.iload_n 2, 1) := by decide +kernel
theorem dX12_without_10 : decode cX12_without 10 = .ok (.invokevirtual 422, 3) := by decide +kernel
theorem dX12_without_13 : decode cX12_without 13 = .ok (.ifCond .ne 5, 3) := by decide +kernel
theorem dX12_without_16 : decode cX12_without 16 = .ok (.iconst (-1), 1) := by decide +kernel
theorem dX12_without_17 : decode cX12_without 17 = .ok (.ireturn, 1) := by decide +kernel
theorem dX12_without_18 : decode cX12_without 18 = .ok (.aload_n 0, 1) := by decide +kernel
theorem dX12_without_19 : decode cX12_without 19 = .ok (.invokevirtual 412, 3) := by decide +kernel
theorem dX12_without_22 : decode cX12_without 22 = .ok (.iconst 0, 1) := by decide +kernel
theorem dX12_without_23 : decode cX12_without 23 = .ok (.istore_n 3, 1) := by decide +kernel
theorem dX12_without_24 : decode cX12_without 24 = .ok (.iload_n 3, 1) := by decide +kernel
theorem dX12_without_25 : decode cX12_without 25 = .ok (.aload_n 0, 1) := by decide +kernel
theorem dX12_without_26 : decode cX12_without 26 = .ok (.getfield 46, 3) := by decide +kernel
theorem dX12_without_29 : decode cX12_without 29 = .ok (.aload_n 0, 1) := by decide +kernel
theorem dX12_without_30 : decode cX12_without 30 = .ok (.getfield 218, 3) := by decide +kernel
theorem dX12_without_33 : decode cX12_without 33 = .ok (.iaload, 1) := by decide +kernel
theorem dX12_without_34 : decode cX12_without 34 = .ok (.if_icmp .ge 46, 3) := by decide +kernel
theorem dX12_without_37 : decode cX12_without 37 = .ok (.iconst 0, 1) := by decide +kernel
theorem dX12_without_38 : decode cX12_without 38 = .ok (.istore 4, 2) := by decide +kernel
theorem dX12_without_40 : decode cX12_without 40 = .ok (.iload 4, 2) := by decide +kernel
theorem dX12_without_42 : decode cX12_without 42 = .ok (.iconst 2, 1) := by decide +kernel
theorem dX12_without_43 : decode cX12_without 43 = .ok (.if_icmp .ge 31, 3) := by decide +kernel
theorem dX12_without_46 : decode cX12_without 46 = .ok (.aload_n 0, 1) := by decide +kernel
theorem dX12_without_47 : decode cX12_without 47 = .ok (.getfield 110, 3) := by decide +kernel
theorem dX12_without_50 : decode cX12_without 50 = .ok (.aload_n 0, 1) := by decide +kernel
theorem dX12_without_51 : decode cX12_without 51 = .ok (.bipush 36, 2) := by decide +kernel
theorem dX12_without_53 : decode cX12_without 53 = .ok (.iload 4, 2) := by decide +kernel
theorem dX12_without_55 : decode cX12_without 55 = .ok (.iload_n 3, 1) := by decide +kernel
theorem dX12_without_56 : decode cX12_without 56 = .ok (.invokevirtual 383, 3) := by decide +kernel
theorem dX12_without_59 : decode cX12_without 59 = .ok (.aload_n 0, 1) := by decide +kernel
theorem dX12_without_60 : decode cX12_without 60 = .ok (.iload_n 3, 1) := by decide +kernel
theorem dX12_without_61 : decode cX12_without 61 = .ok (.iload 4, 2) := by decide +kernel
theorem dX12_without_63 : decode cX12_without 63 = .ok (.iload_n 2, 1) := by decide +kernel
theorem dX12_without_64 : decode cX12_without 64 = .ok (.invokevirtual 440, 3) := by decide +kernel
theorem dX12_without_67 : decode cX12_without 67 = .ok (.iastore, 1) := by decide +kernel
theorem dX12_without_68 : decode cX12_without 68 = .ok (.iinc 4 1, 3) := by decide +kernel
theorem dX12_without_71 : decode cX12_without 71 = .ok (.goto (-31), 3) := by decide +kernel
theorem dX12_without_74 : decode cX12_without 74 = .ok (.iinc 3 1, 3) := by decide +kernel
theorem dX12_without_77 : decode cX12_without 77 = .ok (.goto (-53), 3) := by decide +kernel
theorem dX12_without_80 : decode cX12_without 80 = .ok (.aload_n 0, 1) := by decide +kernel
theorem dX12_without_81 : decode cX12_without 81 = .ok (.iload_n 1, 1) := by decide +kernel
theorem dX12_without_82 : decode cX12_without 82 = .ok (.iconst 2, 1) := by decide +kernel
theorem dX12_without_83 : decode cX12_without 83 = .ok (.invokevirtual 389, 3) := by decide +kernel
theorem dX12_without_86 : decode cX12_without 86 = .ok (.ireturn, 1) := by decide +kernel
theorem dX12_hasLeft_0 : decode cX12_hasLeft 0 = .ok (.aload_n 0, 1) := by decide +kernel
theorem dX12_hasLeft_1 : decode cX12_hasLeft 1 = .ok (.getfield 110, 3) := by decide +kernel
theorem dX12_hasLeft_4 : decode cX12_hasLeft 4 = .ok (.iconst 1, 1) := by decide +kernel
theorem dX12_hasLeft_5 : decode cX12_hasLeft 5 = .ok (.iaload, 1) := by decide +kernel
theorem dX12_hasLeft_6 : decode cX12_hasLeft 6 = .ok (.iconst 3, 1) := by decide +kernel
theorem dX12_hasLeft_7 : decode cX12_hasLeft 7 = .ok (.if_icmp .eq 26, 3) := by decide +kernel
theorem dX12_hasLeft_10 : decode cX12_hasLeft 10 = .ok (.aload_n 0, 1) := by decide +kernel
theorem dX12_hasLeft_11 : decode cX12_hasLeft 11 = .ok (.getfield 110, 3) := by decide +kernel
theorem dX12_hasLeft_14 : decode cX12_hasLeft 14 = .ok (.aload_n 0, 1) := by decide +kernel
theorem dX12_hasLeft_15 : decode cX12_hasLeft 15 = .ok (.iconst 4, 1) := by decide +kernel
theorem dX12_hasLeft_16 : decode cX12_hasLeft 16 = .ok (.aload_n 0, 1) := by decide +kernel
theorem dX12_hasLeft_17 : decode cX12_hasLeft 17 = .ok (.getfield 110, 3) := by decide +kernel
theorem dX12_hasLeft_20 : decode cX12_hasLeft 20 = .ok (.iconst 1, 1) := by decide +kernel
theorem dX12_hasLeft_21 : decode cX12_hasLeft 21 = .ok (.iaload, 1) := by decide +kernel
theorem dX12_hasLeft_22 : decode cX12_hasLeft 22 = .ok (.iconst 1, 1) := by decide +kernel
theorem dX12_hasLeft_23 : decode cX12_hasLeft 23 = .ok (.isub, 1) := by decide +kernel
theorem dX12_hasLeft_24 : decode cX12_hasLeft 24 = .ok (.iload_n 1, 1) := by decide +kernel
theorem dX12_hasLeft_25 : decode cX12_hasLeft 25 = .ok (.invokevirtual 383, 3) := by decide +kernel
theorem dX12_hasLeft_28 : decode cX12_hasLeft 28 = .ok (.iaload, 1) := by decide +kernel
theorem dX12_hasLeft_29 : decode cX12_hasLeft 29 = .ok (.iconst 1, 1) := by decide +kernel
theorem dX12_hasLeft_30 : decode cX12_hasLeft 30 = .ok (.if_icmp .ne 5, 3) := by decide +kernel
theorem dX12_hasLeft_33 : decode cX12_hasLeft 33 = .ok (.iconst 0, 1) := by decide +kernel
theorem dX12_hasLeft_34 : decode cX12_hasLeft 34 = .ok (.ireturn, 1) := by decide +kernel
theorem dX12_hasLeft_35 : decode cX12_hasLeft 35 = .ok (.aload_n 0, 1) := by decide +kernel
theorem dX12_hasLeft_36 : decode cX12_hasLeft 36 = .ok (.getfield 110, 3) := by decide +kernel
theorem dX12_hasLeft_39 : decode cX12_hasLeft 39 = .ok (.iconst 1, 1) := by decide +kernel
theorem dX12_hasLeft_40 : decode cX12_hasLeft 40 = .ok (.iaload, 1) := by decide +kernel
theorem dX12_hasLeft_41 : decode cX12_hasLeft 41 = .ok (.iconst 1, 1) := by decide +kernel
theorem dX12_hasLeft_42 : decode cX12_hasLeft 42 = .ok (.if_icmp .eq 16, 3) := by decide +kernel
theorem dX12_hasLeft_45 : decode cX12_hasLeft 45 = .ok (.aload_n 0, 1) := by decide +kernel
theorem dX12_hasLeft_46 : decode cX12_hasLeft 46 = .ok (.iload_n 1, 1) := by decide +kernel
theorem dX12_hasLeft_47 : decode cX12_hasLeft 47 = .ok (.iconst 1, 1) := by decide +kernel
theorem dX12_hasLeft_48 : decode cX12_hasLeft 48 = .ok (.invokevirtual 389, 3) := by decide +kernel
theorem dX12_hasLeft_51 : decode cX12_hasLeft 51 = .ok (.aload_n 0, 1) := by decide +kernel
theorem dX12_hasLeft_52 : decode cX12_hasLeft 52 = .ok (.invokevirtual 392, 3) := by decide +kernel
theorem dX12_hasLeft_55 : decode cX12_hasLeft 55 = .ok (.if_icmp .ge 7, 3) := by decide +kernel
theorem dX12_hasLeft_58 : decode cX12_hasLeft 58 = .ok (.iconst 1, 1) := by decide +kernel
theorem dX12_hasLeft_59 : decode cX12_hasLeft 59 = .ok (.goto 4, 3) := by decide +kernel
theorem dX12_hasLeft_62 : decode cX12_hasLeft 62 = .ok (.iconst 0, 1) := by decide +kernel
theorem dX12_hasLeft_63 : decode cX12_hasLeft 63 = .ok (.ireturn, 1) := by decide +kernel
theorem dX12_needs_0 : decode cX12_needs 0 = .ok (.aload_n 0, 1) := by decide +kernel
theorem dX12_needs_1 : decode cX12_needs 1 = .ok (.iload_n 1, 1) := by decide +kernel
theorem dX12_needs_2 : decode cX12_needs 2 = .ok (.invokevirtual 416, 3) := by decide +kernel
theorem dX12_needs_5 : decode cX12_needs 5 = .ok (.ifCond .ne 5, 3) := by decide +kernel
theorem dX12_needs_8 : decode cX12_needs 8 = .ok (.iconst (-1), 1) := by decide +kernel
theorem dX12_needs_9 : decode cX12_needs 9 = .ok (.ireturn, 1) := by decide +kernel
theorem dX12_needs_10 : decode cX12_needs 10 = .ok (.aload_n 0, 1) := by decide +kernel
theorem dX12_needs_11 : decode cX12_needs 11 = .ok (.invokevirtual 412, 3) := by decide +kernel
theorem dX12_needs_14 : decode cX12_needs 14 = .ok (.aload_n 0, 1) := by decide +kernel
theorem dX12_needs_15 : decode cX12_needs 15 = .ok (.iload_n 1, 1) := by decide +kernel
theorem dX12_needs_16 : decode cX12_needs 16 = .ok (.invokevirtual 443, 3) := by decide +kernel
theorem dX12_needs_19 : decode cX12_needs 19 = .ok (.ifCond .ne 5, 3) := by decide +kernel
theorem dX12_needs_22 : decode cX12_needs 22 = .ok (.iconst (-1), 1) := by decide +kernel
theorem dX12_needs_23 : decode cX12_needs 23 = .ok (.ireturn, 1) := by decide +kernel
theorem dX12_needs_24 : decode cX12_needs 24 = .ok (.aload_n 0, 1) := by decide +kernel
theorem dX12_needs_25 : decode cX12_needs 25 = .ok (.iload_n 1, 1) := by decide +kernel
theorem dX12_needs_26 : decode cX12_needs 26 = .ok (.aload_n 0, 1) := by decide +kernel
theorem dX12_needs_27 : decode cX12_needs 27 = .ok (.getfield 110, 3) := by decide +kernel
theorem dX12_needs_30 : decode cX12_needs 30 = .ok (.iconst 0, 1) := by decide +kernel
theorem dX12_needs_31 : decode cX12_needs 31 = .ok (.iaload, 1) := by decide +kernel
theorem dX12_needs_32 : decode cX12_needs 32 = .ok (.iconst 0, 1) := by decide +kernel
theorem dX12_needs_33 : decode cX12_needs 33 = .ok (.aload_n 0, 1) := by decide +kernel
theorem dX12_needs_34 : decode cX12_needs 34 = .ok (.getfield 110, 3) := by decide +kernel
theorem dX12_needs_37 : decode cX12_needs 37 = .ok (.iconst 2, 1) := by decide +kernel
theorem dX12_needs_38 : decode cX12_needs 38 = .ok (.iaload, 1) := by decide +kernel
theorem dX12_needs_39 : decode cX12_needs 39 = .ok (.aload_n 0, 1) := by decide +kernel
theorem dX12_needs_40 : decode cX12_needs 40 = .ok (.getfield 110, 3) := by decide +kernel
theorem dX12_needs_43 : decode cX12_needs 43 = .ok (.iconst 3, 1) := by decide +kernel
theorem dX12_needs_44 : decode cX12_needs 44 = .ok (.iaload, 1) := by decide +kernel
theorem dX12_needs_45 : decode cX12_needs 45 = .ok (.invokevirtual 396, 3) := by decide +kernel
theorem dX12_needs_48 : decode cX12_needs 48 = .ok (.aload_n 0, 1) := by decide +kernel
theorem dX12_needs_49 : decode cX12_needs 49 = .ok (.iconst 0, 1) := by decide +kernel
theorem dX12_needs_50 : decode cX12_needs 50 = .ok (.putfield 347, 3) := by decide +kernel
theorem dX12_needs_53 : decode cX12_needs 53 = .ok (.aload_n 0, 1) := by decide +kernel
theorem dX12_needs_54 : decode cX12_needs 54 = .ok (.iconst 0, 1) := by decide +kernel
theorem dX12_needs_55 : decode cX12_needs 55 = .ok (.putfield 353, 3) := by decide +kernel
theorem dX12_needs_58 : decode cX12_needs 58 = .ok (.iconst (-1), 1) := by decide +kernel
theorem dX12_needs_59 : decode cX12_needs 59 = .ok (.istore_n 2, 1) := by decide +kernel
theorem dX12_needs_60 : decode cX12_needs 60 = .ok (.aload_n 0, 1) := by decide +kernel
theorem dX12_needs_61 : decode cX12_needs 61 = .ok (.iload_n 1, 1) := by decide +kernel
theorem dX12_needs_62 : decode cX12_needs 62 = .ok (.invokevirtual 386, 3) := by decide +kernel
theorem dX12_needs_65 : decode cX12_needs 65 = .ok (.istore_n 3, 1) := by decide +kernel
theorem dX12_needs_66 : decode cX12_needs 66 = .ok (.iconst 0, 1) := by decide +kernel
theorem dX12_needs_67 : decode cX12_needs 67 = .ok (.istore 4, 2) := by decide +kernel
theorem dX12_needs_69 : decode cX12_needs 69 = .ok (.iload 4, 2) := by decide +kernel
theorem dX12_needs_71 : decode cX12_needs 71 = .ok (.aload_n 0, 1) := by decide +kernel
theorem dX12_needs_72 : decode cX12_needs 72 = .ok (.getfield 46, 3) := by decide +kernel
theorem dX12_needs_75 : decode cX12_needs 75 = .ok (.aload_n 0, 1) := by decide +kernel
theorem dX12_needs_76 : decode cX12_needs 76 = .ok (.getfield 218, 3) := by decide +kernel
theorem dX12_needs_79 : decode cX12_needs 79 = .ok (.iaload, 1) := by decide +kernel
theorem dX12_needs_80 : decode cX12_needs 80 = .ok (.if_icmp .ge 47, 3) := by decide +kernel
theorem dX12_needs_83 : decode cX12_needs 83 = .ok (.iload 4, 2) := by decide +kernel
theorem dX12_needs_85 : decode cX12_needs 85 = .ok (.iload_n 1, 1) := by decide +kernel
theorem dX12_needs_86 : decode cX12_needs 86 = .ok (.if_icmp .ne 6, 3) := by decide +kernel
theorem dX12_needs_89 : decode cX12_needs 89 = .ok (.goto 32, 3) := by decide +kernel
theorem dX12_needs_92 : decode cX12_needs 92 = .ok (.aload_n 0, 1) := by decide +kernel
theorem dX12_needs_93 : decode cX12_needs 93 = .ok (.iload 4, 2) := by decide +kernel
theorem dX12_needs_95 : decode cX12_needs 95 = .ok (.invokevirtual 386, 3) := by decide +kernel
theorem dX12_needs_98 : decode cX12_needs 98 = .ok (.iload 4, 2) := by decide +kernel
theorem dX12_needs_100 : decode cX12_needs 100 = .ok (.iload_n 1, 1) := by decide +kernel
theorem dX12_needs_101 : decode cX12_needs 101 = .ok (.if_icmp .ge 7, 3) := by decide +kernel
theorem dX12_needs_104 : decode cX12_needs 104 = .ok (.iconst 1, 1) := by decide +kernel
theorem dX12_needs_105 : decode cX12_needs 105 = .ok (.goto 4, 3) := by decide +kernel
theorem dX12_needs_108 : decode cX12_needs 108 = .ok (.iconst 0, 1) := by decide +kernel
theorem dX12_needs_109 : decode cX12_needs 109 = .ok (.iadd, 1) := by decide +kernel
theorem dX12_needs_110 : decode cX12_needs 110 = .ok (.istore 5, 2) := by decide +kernel
theorem dX12_needs_112 : decode cX12_needs 112 = .ok (.iload 5, 2) := by decide +kernel
theorem dX12_needs_114 : decode cX12_needs 114 = .ok (.iload_n 2, 1) := by decide +kernel
theorem dX12_needs_115 : decode cX12_needs 115 = .ok (.if_icmp .le 6, 3) := by decide +kernel
theorem dX12_needs_118 : decode cX12_needs 118 = .ok (.iload 5, 2) := by decide +kernel
theorem dX12_needs_120 : decode cX12_needs 120 = .ok (.istore_n 2, 1) := by decide +kernel
theorem dX12_needs_121 : decode cX12_needs 121 = .ok (.iinc 4 1, 3) := by decide +kernel
theorem dX12_needs_124 : decode cX12_needs 124 = .ok (.goto (-55), 3) := by decide +kernel
theorem dX12_needs_127 : decode cX12_needs 127 = .ok (.iconst 0, 1) := by decide +kernel
theorem dX12_needs_128 : decode cX12_needs 128 = .ok (.istore 4, 2) := by decide +kernel
theorem dX12_needs_130 : decode cX12_needs 130 = .ok (.iload 4, 2) := by decide +kernel
theorem dX12_needs_132 : decode cX12_needs 132 = .ok (.sipush 10000, 3) := by decide +kernel
theorem dX12_needs_135 : decode cX12_needs 135 = .ok (.if_icmp .ge 32, 3) := by decide +kernel
theorem dX12_needs_138 : decode cX12_needs 138 = .ok (.aload_n 0, 1) := by decide +kernel
theorem dX12_needs_139 : decode cX12_needs 139 = .ok (.iload 4, 2) := by decide +kernel
theorem dX12_needs_141 : decode cX12_needs 141 = .ok (.putfield 365, 3) := by decide +kernel
theorem dX12_needs_144 : decode cX12_needs 144 = .ok (.aload_n 0, 1) := by decide +kernel
theorem dX12_needs_145 : decode cX12_needs 145 = .ok (.invokevirtual 368, 3) := by decide +kernel
theorem dX12_needs_148 : decode cX12_needs 148 = .ok (.iload_n 3, 1) := by decide +kernel
theorem dX12_needs_149 : decode cX12_needs 149 = .ok (.aload_n 0, 1) := by decide +kernel
theorem dX12_needs_150 : decode cX12_needs 150 = .ok (.getfield 380, 3) := by decide +kernel
theorem dX12_needs_153 : decode cX12_needs 153 = .ok (.iadd, 1) := by decide +kernel
theorem dX12_needs_154 : decode cX12_needs 154 = .ok (.iload_n 2, 1) := by decide +kernel
theorem dX12_needs_155 : decode cX12_needs 155 = .ok (.if_icmp .lt 6, 3) := by decide +kernel
theorem dX12_needs_158 : decode cX12_needs 158 = .ok (.iload 4, 2) := by decide +kernel
theorem dX12_needs_160 : decode cX12_needs 160 = .ok (.ireturn, 1) := by decide +kernel
theorem dX12_needs_161 : decode cX12_needs 161 = .ok (.iinc 4 1, 3) := by decide +kernel
theorem dX12_needs_164 : decode cX12_needs 164 = .ok (.goto (-34), 3) := by decide +kernel
theorem dX12_needs_167 : decode cX12_needs 167 = .ok (.bipush (-2), 2) := by decide +kernel
theorem dX12_needs_169 : decode cX12_needs 169 = .ok (.ireturn, 1) := by decide +kernel
theorem dX12_spread_0 : decode cX12_spread 0 = .ok (.aload_n 0, 1) := by decide +kernel
theorem dX12_spread_1 : decode cX12_spread 1 = .ok (.iload_n 1, 1) := by decide +kernel
theorem dX12_spread_2 : decode cX12_spread 2 = .ok (.invokevirtual 416, 3) := by decide +kernel
theorem dX12_spread_5 : decode cX12_spread 5 = .ok (.ifCond .ne 5, 3) := by decide +kernel
theorem dX12_spread_8 : decode cX12_spread 8 = .ok (.iconst (-1), 1) := by decide +kernel
theorem dX12_spread_9 : decode cX12_spread 9 = .ok (.ireturn, 1) := by decide +kernel
theorem dX12_spread_10 : decode cX12_spread 10 = .ok (.sipush 10000, 3) := by decide +kernel
theorem dX12_spread_13 : decode cX12_spread 13 = .ok (.istore_n 2, 1) := by decide +kernel
theorem dX12_spread_14 : decode cX12_spread 14 = .ok (.iconst (-1), 1) := by decide +kernel
theorem dX12_spread_15 : decode cX12_spread 15 = .ok (.istore_n 3, 1) := by decide +kernel
theorem dX12_spread_16 : decode cX12_spread 16 = .ok (.iconst 0, 1) := by decide +kernel
theorem dX12_spread_17 : decode cX12_spread 17 = .ok (.istore 4, 2) := by decide +kernel
theorem dX12_spread_19 : decode cX12_spread 19 = .ok (.iload 4, 2) := by decide +kernel
theorem dX12_spread_21 : decode cX12_spread 21 = .ok (.aload_n 0, 1) := by decide +kernel
theorem dX12_spread_22 : decode cX12_spread 22 = .ok (.bipush 10, 2) := by decide +kernel
theorem dX12_spread_24 : decode cX12_spread 24 = .ok (.invokevirtual 297, 3) := by decide +kernel
theorem dX12_spread_27 : decode cX12_spread 27 = .ok (.if_icmp .gt 43, 3) := by decide +kernel
theorem dX12_spread_30 : decode cX12_spread 30 = .ok (.aload_n 0, 1) := by decide +kernel
theorem dX12_spread_31 : decode cX12_spread 31 = .ok (.iload_n 1, 1) := by decide +kernel
theorem dX12_spread_32 : decode cX12_spread 32 = .ok (.iload 4, 2) := by decide +kernel
theorem dX12_spread_34 : decode cX12_spread 34 = .ok (.iconst 0, 1) := by decide +kernel
theorem dX12_spread_35 : decode cX12_spread 35 = .ok (.invokevirtual 431, 3) := by decide +kernel
theorem dX12_spread_38 : decode cX12_spread 38 = .ok (.aload_n 0, 1) := by decide +kernel
theorem dX12_spread_39 : decode cX12_spread 39 = .ok (.getfield 365, 3) := by decide +kernel
theorem dX12_spread_42 : decode cX12_spread 42 = .ok (.iload_n 2, 1) := by decide +kernel
theorem dX12_spread_43 : decode cX12_spread 43 = .ok (.if_icmp .ge 8, 3) := by decide +kernel
theorem dX12_spread_46 : decode cX12_spread 46 = .ok (.aload_n 0, 1) := by decide +kernel
theorem dX12_spread_47 : decode cX12_spread 47 = .ok (.getfield 365, 3) := by decide +kernel
theorem dX12_spread_50 : decode cX12_spread 50 = .ok (.istore_n 2, 1) := by decide +kernel
theorem dX12_spread_51 : decode cX12_spread 51 = .ok (.aload_n 0, 1) := by decide +kernel
theorem dX12_spread_52 : decode cX12_spread 52 = .ok (.getfield 365, 3) := by decide +kernel
theorem dX12_spread_55 : decode cX12_spread 55 = .ok (.iload_n 3, 1) := by decide +kernel
theorem dX12_spread_56 : decode cX12_spread 56 = .ok (.if_icmp .le 8, 3) := by decide +kernel
theorem dX12_spread_59 : decode cX12_spread 59 = .ok (.aload_n 0, 1) := by decide +kernel
theorem dX12_spread_60 : decode cX12_spread 60 = .ok (.getfield 365, 3) := by decide +kernel
theorem dX12_spread_63 : decode cX12_spread 63 = .ok (.istore_n 3, 1) := by decide +kernel
theorem dX12_spread_64 : decode cX12_spread 64 = .ok (.iinc 4 1, 3) := by decide +kernel
theorem dX12_spread_67 : decode cX12_spread 67 = .ok (.goto (-48), 3) := by decide +kernel
theorem dX12_spread_70 : decode cX12_spread 70 = .ok (.iload_n 3, 1) := by decide +kernel
theorem dX12_spread_71 : decode cX12_spread 71 = .ok (.iload_n 2, 1) := by decide +kernel
theorem dX12_spread_72 : decode cX12_spread 72 = .ok (.isub, 1) := by decide +kernel
theorem dX12_spread_73 : decode cX12_spread 73 = .ok (.ireturn, 1) := by decide +kernel
theorem dX12_atGate_0 : decode cX12_atGate 0 = .ok (.aload_n 0, 1) := by decide +kernel
theorem dX12_atGate_1 : decode cX12_atGate 1 = .ok (.iload_n 1, 1) := by decide +kernel
theorem dX12_atGate_2 : decode cX12_atGate 2 = .ok (.invokevirtual 416, 3) := by decide +kernel
theorem dX12_atGate_5 : decode cX12_atGate 5 = .ok (.ifCond .eq 13, 3) := by decide +kernel
theorem dX12_atGate_8 : decode cX12_atGate 8 = .ok (.iload_n 2, 1) := by decide +kernel
theorem dX12_atGate_9 : decode cX12_atGate 9 = .ok (.iconst 0, 1) := by decide +kernel
theorem dX12_atGate_10 : decode cX12_atGate 10 = .ok (.bipush 40, 2) := by decide +kernel
theorem dX12_atGate_12 : decode cX12_atGate 12 = .ok (.invokestatic 293, 3) := by decide +kernel
theorem dX12_atGate_15 : decode cX12_atGate 15 = .ok (.ifCond .ne 7, 3) := by decide +kernel
theorem dX12_atGate_18 : decode cX12_atGate 18 = .ok (.sipush (-10000), 3) := by decide +kernel
theorem dX12_atGate_21 : decode cX12_atGate 21 = .ok (.ireturn, 1) := by decide +kernel
theorem dX12_atGate_22 : decode cX12_atGate 22 = .ok (.aload_n 0, 1) := by decide +kernel
theorem dX12_atGate_23 : decode cX12_atGate 23 = .ok (.invokevirtual 412, 3) := by decide +kernel
theorem dX12_atGate_26 : decode cX12_atGate 26 = .ok (.aload_n 0, 1) := by decide +kernel
theorem dX12_atGate_27 : decode cX12_atGate 27 = .ok (.iload_n 1, 1) := by decide +kernel
theorem dX12_atGate_28 : decode cX12_atGate 28 = .ok (.aload_n 0, 1) := by decide +kernel
theorem dX12_atGate_29 : decode cX12_atGate 29 = .ok (.getfield 110, 3) := by decide +kernel
theorem dX12_atGate_32 : decode cX12_atGate 32 = .ok (.iconst 0, 1) := by decide +kernel
theorem dX12_atGate_33 : decode cX12_atGate 33 = .ok (.iaload, 1) := by decide +kernel
theorem dX12_atGate_34 : decode cX12_atGate 34 = .ok (.iconst 0, 1) := by decide +kernel
theorem dX12_atGate_35 : decode cX12_atGate 35 = .ok (.iload_n 2, 1) := by decide +kernel
theorem dX12_atGate_36 : decode cX12_atGate 36 = .ok (.aload_n 0, 1) := by decide +kernel
theorem dX12_atGate_37 : decode cX12_atGate 37 = .ok (.getfield 110, 3) := by decide +kernel
theorem dX12_atGate_40 : decode cX12_atGate 40 = .ok (.iconst 3, 1) := by decide +kernel
theorem dX12_atGate_41 : decode cX12_atGate 41 = .ok (.iaload, 1) := by decide +kernel
theorem dX12_atGate_42 : decode cX12_atGate 42 = .ok (.invokevirtual 396, 3) := by decide +kernel
theorem dX12_atGate_45 : decode cX12_atGate 45 = .ok (.iload_n 3, 1) := by decide +kernel
theorem dX12_atGate_46 : decode cX12_atGate 46 = .ok (.ifCond .eq 10, 3) := by decide +kernel
theorem dX12_atGate_49 : decode cX12_atGate 49 = .ok (.aload_n 0, 1) := by decide +kernel
theorem dX12_atGate_50 : decode cX12_atGate 50 = .ok (.getfield 380, 3) := by decide +kernel
theorem dX12_atGate_53 : decode cX12_atGate 53 = .ok (.goto 7, 3) := by decide +kernel
theorem dX12_atGate_56 : decode cX12_atGate 56 = .ok (.aload_n 0, 1) := by decide +kernel
theorem dX12_atGate_57 : decode cX12_atGate 57 = .ok (.getfield 365, 3) := by decide +kernel
theorem dX12_atGate_60 : decode cX12_atGate 60 = .ok (.ireturn, 1) := by decide +kernel
theorem dX12_lead_0 : decode cX12_lead 0 = .ok (.aload_n 0, 1) := by decide +kernel
theorem dX12_lead_1 : decode cX12_lead 1 = .ok (.iload_n 1, 1) := by decide +kernel
theorem dX12_lead_2 : decode cX12_lead 2 = .ok (.invokevirtual 416, 3) := by decide +kernel
theorem dX12_lead_5 : decode cX12_lead 5 = .ok (.ifCond .ne 7, 3) := by decide +kernel
theorem dX12_lead_8 : decode cX12_lead 8 = .ok (.sipush (-10000), 3) := by decide +kernel
theorem dX12_lead_11 : decode cX12_lead 11 = .ok (.ireturn, 1) := by decide +kernel
theorem dX12_lead_12 : decode cX12_lead 12 = .ok (.aload_n 0, 1) := by decide +kernel
theorem dX12_lead_13 : decode cX12_lead 13 = .ok (.invokevirtual 412, 3) := by decide +kernel
theorem dX12_lead_16 : decode cX12_lead 16 = .ok (.iconst 0, 1) := by decide +kernel
theorem dX12_lead_17 : decode cX12_lead 17 = .ok (.istore_n 2, 1) := by decide +kernel
theorem dX12_lead_18 : decode cX12_lead 18 = .ok (.iconst 0, 1) := by decide +kernel
theorem dX12_lead_19 : decode cX12_lead 19 = .ok (.istore_n 3, 1) := by decide +kernel
theorem dX12_lead_20 : decode cX12_lead 20 = .ok (.iload_n 3, 1) := by decide +kernel
theorem dX12_lead_21 : decode cX12_lead 21 = .ok (.aload_n 0, 1) := by decide +kernel
theorem dX12_lead_22 : decode cX12_lead 22 = .ok (.getfield 46, 3) := by decide +kernel
theorem dX12_lead_25 : decode cX12_lead 25 = .ok (.aload_n 0, 1) := by decide +kernel
theorem dX12_lead_26 : decode cX12_lead 26 = .ok (.getfield 218, 3) := by decide +kernel
theorem dX12_lead_29 : decode cX12_lead 29 = .ok (.iaload, 1) := by decide +kernel
theorem dX12_lead_30 : decode cX12_lead 30 = .ok (.if_icmp .ge 29, 3) := by decide +kernel
theorem dX12_lead_33 : decode cX12_lead 33 = .ok (.iload_n 3, 1) := by decide +kernel
theorem dX12_lead_34 : decode cX12_lead 34 = .ok (.iload_n 1, 1) := by decide +kernel
theorem dX12_lead_35 : decode cX12_lead 35 = .ok (.if_icmp .eq 18, 3) := by decide +kernel
theorem dX12_lead_38 : decode cX12_lead 38 = .ok (.aload_n 0, 1) := by decide +kernel
theorem dX12_lead_39 : decode cX12_lead 39 = .ok (.iload_n 3, 1) := by decide +kernel
theorem dX12_lead_40 : decode cX12_lead 40 = .ok (.invokevirtual 386, 3) := by decide +kernel
theorem dX12_lead_43 : decode cX12_lead 43 = .ok (.iload_n 2, 1) := by decide +kernel
theorem dX12_lead_44 : decode cX12_lead 44 = .ok (.if_icmp .le 9, 3) := by decide +kernel
theorem dX12_lead_47 : decode cX12_lead 47 = .ok (.aload_n 0, 1) := by decide +kernel
theorem dX12_lead_48 : decode cX12_lead 48 = .ok (.iload_n 3, 1) := by decide +kernel
theorem dX12_lead_49 : decode cX12_lead 49 = .ok (.invokevirtual 386, 3) := by decide +kernel
theorem dX12_lead_52 : decode cX12_lead 52 = .ok (.istore_n 2, 1) := by decide +kernel
theorem dX12_lead_53 : decode cX12_lead 53 = .ok (.iinc 3 1, 3) := by decide +kernel
theorem dX12_lead_56 : decode cX12_lead 56 = .ok (.goto (-36), 3) := by decide +kernel
theorem dX12_lead_59 : decode cX12_lead 59 = .ok (.aload_n 0, 1) := by decide +kernel
theorem dX12_lead_60 : decode cX12_lead 60 = .ok (.iload_n 1, 1) := by decide +kernel
theorem dX12_lead_61 : decode cX12_lead 61 = .ok (.invokevirtual 386, 3) := by decide +kernel
theorem dX12_lead_64 : decode cX12_lead 64 = .ok (.iload_n 2, 1) := by decide +kernel
theorem dX12_lead_65 : decode cX12_lead 65 = .ok (.isub, 1) := by decide +kernel
theorem dX12_lead_66 : decode cX12_lead 66 = .ok (.ireturn, 1) := by decide +kernel
theorem dX12_gaveInAll_0 : decode cX12_gaveInAll 0 = .ok (.iconst 0, 1) := by decide +kernel
theorem dX12_gaveInAll_1 : decode cX12_gaveInAll 1 = .ok (.istore_n 2, 1) := by decide +kernel
theorem dX12_gaveInAll_2 : decode cX12_gaveInAll 2 = .ok (.iconst 0, 1) := by decide +kernel
theorem dX12_gaveInAll_3 : decode cX12_gaveInAll 3 = .ok (.istore_n 3, 1) := by decide +kernel
theorem dX12_gaveInAll_4 : decode cX12_gaveInAll 4 = .ok (.iload_n 3, 1) := by decide +kernel
theorem dX12_gaveInAll_5 : decode cX12_gaveInAll 5 = .ok (.bipush 16, 2) := by decide +kernel
theorem dX12_gaveInAll_7 : decode cX12_gaveInAll 7 = .ok (.if_icmp .ge 39, 3) := by decide +kernel
theorem dX12_gaveInAll_10 : decode cX12_gaveInAll 10 = .ok (.aload_n 0, 1) := by decide +kernel
theorem dX12_gaveInAll_11 : decode cX12_gaveInAll 11 = .ok (.getfield 107, 3) := by decide +kernel
theorem dX12_gaveInAll_14 : decode cX12_gaveInAll 14 = .ok (.iconst 4, 1) := by decide +kernel
theorem dX12_gaveInAll_15 : decode cX12_gaveInAll 15 = .ok (.iload_n 3, 1) := by decide +kernel
theorem dX12_gaveInAll_16 : decode cX12_gaveInAll 16 = .ok (.iadd, 1) := by decide +kernel
theorem dX12_gaveInAll_17 : decode cX12_gaveInAll 17 = .ok (.iaload, 1) := by decide +kernel
theorem dX12_gaveInAll_18 : decode cX12_gaveInAll 18 = .ok (.iconst 1, 1) := by decide +kernel
theorem dX12_gaveInAll_19 : decode cX12_gaveInAll 19 = .ok (.if_icmp .ne 21, 3) := by decide +kernel
theorem dX12_gaveInAll_22 : decode cX12_gaveInAll 22 = .ok (.iload_n 2, 1) := by decide +kernel
theorem dX12_gaveInAll_23 : decode cX12_gaveInAll 23 = .ok (.aload_n 0, 1) := by decide +kernel
theorem dX12_gaveInAll_24 : decode cX12_gaveInAll 24 = .ok (.getfield 107, 3) := by decide +kernel
theorem dX12_gaveInAll_27 : decode cX12_gaveInAll 27 = .ok (.sipush 148, 3) := by decide +kernel
theorem dX12_gaveInAll_30 : decode cX12_gaveInAll 30 = .ok (.bipush 7, 2) := by decide +kernel
theorem dX12_gaveInAll_32 : decode cX12_gaveInAll 32 = .ok (.iload_n 3, 1) := by decide +kernel
theorem dX12_gaveInAll_33 : decode cX12_gaveInAll 33 = .ok (.imul, 1) := by decide +kernel
theorem dX12_gaveInAll_34 : decode cX12_gaveInAll 34 = .ok (.iadd, 1) := by decide +kernel
theorem dX12_gaveInAll_35 : decode cX12_gaveInAll 35 = .ok (.iload_n 1, 1) := by decide +kernel
theorem dX12_gaveInAll_36 : decode cX12_gaveInAll 36 = .ok (.iadd, 1) := by decide +kernel
theorem dX12_gaveInAll_37 : decode cX12_gaveInAll 37 = .ok (.iaload, 1) := by decide +kernel
theorem dX12_gaveInAll_38 : decode cX12_gaveInAll 38 = .ok (.iadd, 1) := by decide +kernel
theorem dX12_gaveInAll_39 : decode cX12_gaveInAll 39 = .ok (.istore_n 2, 1) := by decide +kernel
theorem dX12_gaveInAll_40 : decode cX12_gaveInAll 40 = .ok (.iinc 3 1, 3) := by decide +kernel
theorem dX12_gaveInAll_43 : decode cX12_gaveInAll 43 = .ok (.goto (-39), 3) := by decide +kernel
theorem dX12_gaveInAll_46 : decode cX12_gaveInAll 46 = .ok (.iload_n 2, 1) := by decide +kernel
theorem dX12_gaveInAll_47 : decode cX12_gaveInAll 47 = .ok (.ireturn, 1) := by decide +kernel
theorem dX12_harsh_0 : decode cX12_harsh 0 = .ok (.iload_n 2, 1) := by decide +kernel
theorem dX12_harsh_1 : decode cX12_harsh 1 = .ok (.iconst 0, 1) := by decide +kernel
theorem dX12_harsh_2 : decode cX12_harsh 2 = .ok (.iconst 1, 1) := by decide +kernel
theorem dX12_harsh_3 : decode cX12_harsh 3 = .ok (.invokestatic 293, 3) := by decide +kernel
theorem dX12_harsh_6 : decode cX12_harsh 6 = .ok (.ifCond .ne 5, 3) := by decide +kernel
theorem dX12_harsh_9 : decode cX12_harsh 9 = .ok (.iconst (-1), 1) := by decide +kernel
theorem dX12_harsh_10 : decode cX12_harsh 10 = .ok (.ireturn, 1) := by decide +kernel
theorem dX12_harsh_11 : decode cX12_harsh 11 = .ok (.aload_n 0, 1) := by decide +kernel
theorem dX12_harsh_12 : decode cX12_harsh 12 = .ok (.getfield 61, 3) := by decide +kernel
theorem dX12_harsh_15 : decode cX12_harsh 15 = .ok (.aload_n 0, 1) := by decide +kernel
theorem dX12_harsh_16 : decode cX12_harsh 16 = .ok (.getfield 218, 3) := by decide +kernel
theorem dX12_harsh_19 : decode cX12_harsh 19 = .ok (.iaload, 1) := by decide +kernel
theorem dX12_harsh_20 : decode cX12_harsh 20 = .ok (.ifCond .ne 6, 3) := by decide +kernel
theorem dX12_harsh_23 : decode cX12_harsh 23 = .ok (.bipush (-2), 2) := by decide +kernel
theorem dX12_harsh_25 : decode cX12_harsh 25 = .ok (.ireturn, 1) := by decide +kernel
theorem dX12_harsh_26 : decode cX12_harsh 26 = .ok (.iconst 0, 1) := by decide +kernel
theorem dX12_harsh_27 : decode cX12_harsh 27 = .ok (.istore_n 3, 1) := by decide +kernel
theorem dX12_harsh_28 : decode cX12_harsh 28 = .ok (.iconst 1, 1) := by decide +kernel
theorem dX12_harsh_29 : decode cX12_harsh 29 = .ok (.istore 4, 2) := by decide +kernel
theorem dX12_harsh_31 : decode cX12_harsh 31 = .ok (.iload 4, 2) := by decide +kernel
theorem dX12_harsh_33 : decode cX12_harsh 33 = .ok (.aload_n 0, 1) := by decide +kernel
theorem dX12_harsh_34 : decode cX12_harsh 34 = .ok (.getfield 61, 3) := by decide +kernel
theorem dX12_harsh_37 : decode cX12_harsh 37 = .ok (.aload_n 0, 1) := by decide +kernel
theorem dX12_harsh_38 : decode cX12_harsh 38 = .ok (.getfield 218, 3) := by decide +kernel
theorem dX12_harsh_41 : decode cX12_harsh 41 = .ok (.iaload, 1) := by decide +kernel
theorem dX12_harsh_42 : decode cX12_harsh 42 = .ok (.if_icmp .ge 47, 3) := by decide +kernel
theorem dX12_harsh_45 : decode cX12_harsh 45 = .ok (.iload_n 1, 1) := by decide +kernel
theorem dX12_harsh_46 : decode cX12_harsh 46 = .ok (.ifCond .eq 20, 3) := by decide +kernel
theorem dX12_harsh_49 : decode cX12_harsh 49 = .ok (.aload_n 0, 1) := by decide +kernel
theorem dX12_harsh_50 : decode cX12_harsh 50 = .ok (.iload 4, 2) := by decide +kernel
theorem dX12_harsh_52 : decode cX12_harsh 52 = .ok (.invokevirtual 446, 3) := by decide +kernel
theorem dX12_harsh_55 : decode cX12_harsh 55 = .ok (.aload_n 0, 1) := by decide +kernel
theorem dX12_harsh_56 : decode cX12_harsh 56 = .ok (.iload_n 3, 1) := by decide +kernel
theorem dX12_harsh_57 : decode cX12_harsh 57 = .ok (.invokevirtual 446, 3) := by decide +kernel
theorem dX12_harsh_60 : decode cX12_harsh 60 = .ok (.if_icmp .le 23, 3) := by decide +kernel
theorem dX12_harsh_63 : decode cX12_harsh 63 = .ok (.goto 17, 3) := by decide +kernel
theorem dX12_harsh_66 : decode cX12_harsh 66 = .ok (.aload_n 0, 1) := by decide +kernel
theorem dX12_harsh_67 : decode cX12_harsh 67 = .ok (.iload 4, 2) := by decide +kernel
theorem dX12_harsh_69 : decode cX12_harsh 69 = .ok (.invokevirtual 446, 3) := by decide +kernel
theorem dX12_harsh_72 : decode cX12_harsh 72 = .ok (.aload_n 0, 1) := by decide +kernel
theorem dX12_harsh_73 : decode cX12_harsh 73 = .ok (.iload_n 3, 1) := by decide +kernel
theorem dX12_harsh_74 : decode cX12_harsh 74 = .ok (.invokevirtual 446, 3) := by decide +kernel
theorem dX12_harsh_77 : decode cX12_harsh 77 = .ok (.if_icmp .ge 6, 3) := by decide +kernel
theorem dX12_harsh_80 : decode cX12_harsh 80 = .ok (.iload 4, 2) := by decide +kernel
theorem dX12_harsh_82 : decode cX12_harsh 82 = .ok (.istore_n 3, 1) := by decide +kernel
theorem dX12_harsh_83 : decode cX12_harsh 83 = .ok (.iinc 4 1, 3) := by decide +kernel
theorem dX12_harsh_86 : decode cX12_harsh 86 = .ok (.goto (-55), 3) := by decide +kernel
theorem dX12_harsh_89 : decode cX12_harsh 89 = .ok (.iload_n 2, 1) := by decide +kernel
theorem dX12_harsh_90 : decode cX12_harsh 90 = .ok (.ifCond .ne 7, 3) := by decide +kernel
theorem dX12_harsh_93 : decode cX12_harsh 93 = .ok (.iload_n 3, 1) := by decide +kernel
theorem dX12_harsh_94 : decode cX12_harsh 94 = .ok (.goto 8, 3) := by decide +kernel
theorem dX12_harsh_97 : decode cX12_harsh 97 = .ok (.aload_n 0, 1) := by decide +kernel
theorem dX12_harsh_98 : decode cX12_harsh 98 = .ok (.iload_n 3, 1) := by decide +kernel
theorem dX12_harsh_99 : decode cX12_harsh 99 = .ok (.invokevirtual 446, 3) := by decide +kernel
theorem dX12_harsh_102 : decode cX12_harsh 102 = .ok (.ireturn, 1) := by decide +kernel
theorem dX12_plainly0_0 : decode cX12_plainly0 0 = .ok (.iload_n 0, 1) := by decide +kernel
theorem dX12_plainly0_1 : decode cX12_plainly0 1 = .ok (.ifCond .ge 8, 3) := by decide +kernel
theorem dX12_plainly0_4 : decode cX12_plainly0 4 = .ok (.iload_n 0, 1) := by decide +kernel
theorem dX12_plainly0_5 : decode cX12_plainly0 5 = .ok (.ineg, 1) := by decide +kernel
theorem dX12_plainly0_6 : decode cX12_plainly0 6 = .ok (.goto 4, 3) := by decide +kernel
theorem dX12_plainly0_9 : decode cX12_plainly0 9 = .ok (.iload_n 0, 1) := by decide +kernel
theorem dX12_plainly0_10 : decode cX12_plainly0 10 = .ok (.ireturn, 1) := by decide +kernel
theorem dX12_calm_0 : decode cX12_calm 0 = .ok (.iload_n 1, 1) := by decide +kernel
theorem dX12_calm_1 : decode cX12_calm 1 = .ok (.iconst 0, 1) := by decide +kernel
theorem dX12_calm_2 : decode cX12_calm 2 = .ok (.sipush 999, 3) := by decide +kernel
theorem dX12_calm_5 : decode cX12_calm 5 = .ok (.invokestatic 293, 3) := by decide +kernel
theorem dX12_calm_8 : decode cX12_calm 8 = .ok (.ifCond .eq 12, 3) := by decide +kernel
theorem dX12_calm_11 : decode cX12_calm 11 = .ok (.iload_n 2, 1) := by decide +kernel
theorem dX12_calm_12 : decode cX12_calm 12 = .ok (.iconst 0, 1) := by decide +kernel
theorem dX12_calm_13 : decode cX12_calm 13 = .ok (.iconst 1, 1) := by decide +kernel
theorem dX12_calm_14 : decode cX12_calm 14 = .ok (.invokestatic 293, 3) := by decide +kernel
theorem dX12_calm_17 : decode cX12_calm 17 = .ok (.ifCond .ne 7, 3) := by decide +kernel
theorem dX12_calm_20 : decode cX12_calm 20 = .ok (.sipush (-10000), 3) := by decide +kernel
theorem dX12_calm_23 : decode cX12_calm 23 = .ok (.ireturn, 1) := by decide +kernel
theorem dX12_calm_24 : decode cX12_calm 24 = .ok (.aload_n 0, 1) := by decide +kernel
theorem dX12_calm_25 : decode cX12_calm 25 = .ok (.invokevirtual 412, 3) := by decide +kernel
theorem dX12_calm_28 : decode cX12_calm 28 = .ok (.iconst 0, 1) := by decide +kernel
theorem dX12_calm_29 : decode cX12_calm 29 = .ok (.istore_n 3, 1) := by decide +kernel
theorem dX12_calm_30 : decode cX12_calm 30 = .ok (.aload_n 0, 1) := by decide +kernel
theorem dX12_calm_31 : decode cX12_calm 31 = .ok (.aload_n 0, 1) := by decide +kernel
theorem dX12_calm_32 : decode cX12_calm 32 = .ok (.getfield 110, 3) := by decide +kernel
theorem dX12_calm_35 : decode cX12_calm 35 = .ok (.iconst 0, 1) := by decide +kernel
theorem dX12_calm_36 : decode cX12_calm 36 = .ok (.iaload, 1) := by decide +kernel
theorem dX12_calm_37 : decode cX12_calm 37 = .ok (.invokevirtual 350, 3) := by decide +kernel
theorem dX12_calm_40 : decode cX12_calm 40 = .ok (.istore 4, 2) := by decide +kernel
theorem dX12_calm_42 : decode cX12_calm 42 = .ok (.iconst 1, 1) := by decide +kernel
theorem dX12_calm_43 : decode cX12_calm 43 = .ok (.istore 5, 2) := by decide +kernel
theorem dX12_calm_45 : decode cX12_calm 45 = .ok (.iload 5, 2) := by decide +kernel
theorem dX12_calm_47 : decode cX12_calm 47 = .ok (.iload_n 1, 1) := by decide +kernel
theorem dX12_calm_48 : decode cX12_calm 48 = .ok (.if_icmp .gt 47, 3) := by decide +kernel
theorem dX12_calm_51 : decode cX12_calm 51 = .ok (.aload_n 0, 1) := by decide +kernel
theorem dX12_calm_52 : decode cX12_calm 52 = .ok (.aload_n 0, 1) := by decide +kernel
theorem dX12_calm_53 : decode cX12_calm 53 = .ok (.getfield 110, 3) := by decide +kernel
theorem dX12_calm_56 : decode cX12_calm 56 = .ok (.iconst 0, 1) := by decide +kernel
theorem dX12_calm_57 : decode cX12_calm 57 = .ok (.iaload, 1) := by decide +kernel
theorem dX12_calm_58 : decode cX12_calm 58 = .ok (.iload 5, 2) := by decide +kernel
theorem dX12_calm_60 : decode cX12_calm 60 = .ok (.iadd, 1) := by decide +kernel
theorem dX12_calm_61 : decode cX12_calm 61 = .ok (.invokevirtual 350, 3) := by decide +kernel
theorem dX12_calm_64 : decode cX12_calm 64 = .ok (.istore 6, 2) := by decide +kernel
theorem dX12_calm_66 : decode cX12_calm 66 = .ok (.iload 6, 2) := by decide +kernel
theorem dX12_calm_68 : decode cX12_calm 68 = .ok (.invokestatic 449, 3) := by decide +kernel
theorem dX12_calm_71 : decode cX12_calm 71 = .ok (.iload 4, 2) := by decide +kernel
theorem dX12_calm_73 : decode cX12_calm 73 = .ok (.invokestatic 449, 3) := by decide +kernel
theorem dX12_calm_76 : decode cX12_calm 76 = .ok (.if_icmp .lt 6, 3) := by decide +kernel
theorem dX12_calm_79 : decode cX12_calm 79 = .ok (.goto 10, 3) := by decide +kernel
theorem dX12_calm_82 : decode cX12_calm 82 = .ok (.iload 5, 2) := by decide +kernel
theorem dX12_calm_84 : decode cX12_calm 84 = .ok (.istore_n 3, 1) := by decide +kernel
theorem dX12_calm_85 : decode cX12_calm 85 = .ok (.iload 6, 2) := by decide +kernel
theorem dX12_calm_87 : decode cX12_calm 87 = .ok (.istore 4, 2) := by decide +kernel
theorem dX12_calm_89 : decode cX12_calm 89 = .ok (.iinc 5 1, 3) := by decide +kernel
theorem dX12_calm_92 : decode cX12_calm 92 = .ok (.goto (-47), 3) := by decide +kernel
theorem dX12_calm_95 : decode cX12_calm 95 = .ok (.iload_n 2, 1) := by decide +kernel
theorem dX12_calm_96 : decode cX12_calm 96 = .ok (.ifCond .ne 7, 3) := by decide +kernel
theorem dX12_calm_99 : decode cX12_calm 99 = .ok (.iload_n 3, 1) := by decide +kernel
theorem dX12_calm_100 : decode cX12_calm 100 = .ok (.goto 5, 3) := by decide +kernel
theorem dX12_calm_103 : decode cX12_calm 103 = .ok (.iload 4, 2) := by decide +kernel
theorem dX12_calm_105 : decode cX12_calm 105 = .ok (.ireturn, 1) := by decide +kernel
theorem dX12_windiest_0 : decode cX12_windiest 0 = .ok (.iload_n 1, 1) := by decide +kernel
theorem dX12_windiest_1 : decode cX12_windiest 1 = .ok (.iconst 0, 1) := by decide +kernel
theorem dX12_windiest_2 : decode cX12_windiest 2 = .ok (.ldc_w 415, 3) := by decide +kernel
theorem dX12_windiest_5 : decode cX12_windiest 5 = .ok (.invokestatic 293, 3) := by decide +kernel
theorem dX12_windiest_8 : decode cX12_windiest 8 = .ok (.ifCond .ne 5, 3) := by decide +kernel
theorem dX12_windiest_11 : decode cX12_windiest 11 = .ok (.iconst (-1), 1) := by decide +kernel
theorem dX12_windiest_12 : decode cX12_windiest 12 = .ok (.ireturn, 1) := by decide +kernel
theorem dX12_windiest_13 : decode cX12_windiest 13 = .ok (.aload_n 0, 1) := by decide +kernel
theorem dX12_windiest_14 : decode cX12_windiest 14 = .ok (.invokevirtual 412, 3) := by decide +kernel
theorem dX12_windiest_17 : decode cX12_windiest 17 = .ok (.iconst 0, 1) := by decide +kernel
theorem dX12_windiest_18 : decode cX12_windiest 18 = .ok (.istore_n 2, 1) := by decide +kernel
theorem dX12_windiest_19 : decode cX12_windiest 19 = .ok (.iconst 1, 1) := by decide +kernel
theorem dX12_windiest_20 : decode cX12_windiest 20 = .ok (.istore_n 3, 1) := by decide +kernel
theorem dX12_windiest_21 : decode cX12_windiest 21 = .ok (.iload_n 3, 1) := by decide +kernel
theorem dX12_windiest_22 : decode cX12_windiest 22 = .ok (.iconst 5, 1) := by decide +kernel
theorem dX12_windiest_23 : decode cX12_windiest 23 = .ok (.if_icmp .ge 32, 3) := by decide +kernel
theorem dX12_windiest_26 : decode cX12_windiest 26 = .ok (.aload_n 0, 1) := by decide +kernel
theorem dX12_windiest_27 : decode cX12_windiest 27 = .ok (.iload_n 3, 1) := by decide +kernel
theorem dX12_windiest_28 : decode cX12_windiest 28 = .ok (.iload_n 1, 1) := by decide +kernel
theorem dX12_windiest_29 : decode cX12_windiest 29 = .ok (.invokevirtual 329, 3) := by decide +kernel
theorem dX12_windiest_32 : decode cX12_windiest 32 = .ok (.invokestatic 449, 3) := by decide +kernel
theorem dX12_windiest_35 : decode cX12_windiest 35 = .ok (.aload_n 0, 1) := by decide +kernel
theorem dX12_windiest_36 : decode cX12_windiest 36 = .ok (.iload_n 2, 1) := by decide +kernel
theorem dX12_windiest_37 : decode cX12_windiest 37 = .ok (.iload_n 1, 1) := by decide +kernel
theorem dX12_windiest_38 : decode cX12_windiest 38 = .ok (.invokevirtual 329, 3) := by decide +kernel
theorem dX12_windiest_41 : decode cX12_windiest 41 = .ok (.invokestatic 449, 3) := by decide +kernel
theorem dX12_windiest_44 : decode cX12_windiest 44 = .ok (.if_icmp .le 5, 3) := by decide +kernel
theorem dX12_windiest_47 : decode cX12_windiest 47 = .ok (.iload_n 3, 1) := by decide +kernel
theorem dX12_windiest_48 : decode cX12_windiest 48 = .ok (.istore_n 2, 1) := by decide +kernel
theorem dX12_windiest_49 : decode cX12_windiest 49 = .ok (.iinc 3 1, 3) := by decide +kernel
theorem dX12_windiest_52 : decode cX12_windiest 52 = .ok (.goto (-31), 3) := by decide +kernel
theorem dX12_windiest_55 : decode cX12_windiest 55 = .ok (.iload_n 2, 1) := by decide +kernel
theorem dX12_windiest_56 : decode cX12_windiest 56 = .ok (.ireturn, 1) := by decide +kernel
