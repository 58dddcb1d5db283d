theorem dX5_mosts_42 : decode cX5_mosts 42 = .ok (.isub, 1) := by decide +kernel
theorem dX5_mosts_43 : decode cX5_mosts 43 = .ok (.iload_n 3, 1) := by decide +kernel
theorem dX5_mosts_44 : decode cX5_mosts 44 = .ok (.iload_n 2, 1) := by decide +kernel
theorem dX5_mosts_45 : decode cX5_mosts 45 = .ok (.irem, 1) := by decide +kernel
theorem dX5_mosts_46 : decode cX5_mosts 46 = .ok (.isub, 1) := by decide +kernel
theorem dX5_mosts_47 : decode cX5_mosts 47 = .ok (.invokevirtual 137, 3) := by decide +kernel
theorem dX5_mosts_50 : decode cX5_mosts 50 = .ok (.istore 5, 2) := by decide +kernel
theorem dX5_mosts_52 : decode cX5_mosts 52 = .ok (.iconst 0, 1) := by decide +kernel
theorem dX5_mosts_53 : decode cX5_mosts 53 = .ok (.istore 6, 2) := by decide +kernel
theorem dX5_mosts_55 : decode cX5_mosts 55 = .ok (.iconst 0, 1) := by decide +kernel
theorem dX5_mosts_56 : decode cX5_mosts 56 = .ok (.istore 7, 2) := by decide +kernel
theorem dX5_mosts_58 : decode cX5_mosts 58 = .ok (.iload 7, 2) := by decide +kernel
theorem dX5_mosts_60 : decode cX5_mosts 60 = .ok (.aload_n 0, 1) := by decide +kernel
theorem dX5_mosts_61 : decode cX5_mosts 61 = .ok (.getfield 13, 3) := by decide +kernel
theorem dX5_mosts_64 : decode cX5_mosts 64 = .ok (.iconst 4, 1) := by decide +kernel
theorem dX5_mosts_65 : decode cX5_mosts 65 = .ok (.iaload, 1) := by decide +kernel
theorem dX5_mosts_66 : decode cX5_mosts 66 = .ok (.if_icmp .ge 108, 3) := by decide +kernel
theorem dX5_mosts_69 : decode cX5_mosts 69 = .ok (.aload_n 0, 1) := by decide +kernel
theorem dX5_mosts_70 : decode cX5_mosts 70 = .ok (.getfield 32, 3) := by decide +kernel
theorem dX5_mosts_73 : decode cX5_mosts 73 = .ok (.iload 5, 2) := by decide +kernel
theorem dX5_mosts_75 : decode cX5_mosts 75 = .ok (.iaload, 1) := by decide +kernel
theorem dX5_mosts_76 : decode cX5_mosts 76 = .ok (.iload 4, 2) := by decide +kernel
theorem dX5_mosts_78 : decode cX5_mosts 78 = .ok (.iconst (-1), 1) := by decide +kernel
theorem dX5_mosts_79 : decode cX5_mosts 79 = .ok (.ixor, 1) := by decide +kernel
theorem dX5_mosts_80 : decode cX5_mosts 80 = .ok (.iand, 1) := by decide +kernel
theorem dX5_mosts_81 : decode cX5_mosts 81 = .ok (.iconst 1, 1) := by decide +kernel
theorem dX5_mosts_82 : decode cX5_mosts 82 = .ok (.iload 7, 2) := by decide +kernel
theorem dX5_mosts_84 : decode cX5_mosts 84 = .ok (.ishl, 1) := by decide +kernel
theorem dX5_mosts_85 : decode cX5_mosts 85 = .ok (.iand, 1) := by decide +kernel
theorem dX5_mosts_86 : decode cX5_mosts 86 = .ok (.ifCond .eq 7, 3) := by decide +kernel
theorem dX5_mosts_89 : decode cX5_mosts 89 = .ok (.iconst 1, 1) := by decide +kernel
theorem dX5_mosts_90 : decode cX5_mosts 90 = .ok (.goto 4, 3) := by decide +kernel
theorem dX5_mosts_93 : decode cX5_mosts 93 = .ok (.iconst 0, 1) := by decide +kernel
theorem dX5_mosts_94 : decode cX5_mosts 94 = .ok (.istore 8, 2) := by decide +kernel
theorem dX5_mosts_96 : decode cX5_mosts 96 = .ok (.iconst 0, 1) := by decide +kernel
theorem dX5_mosts_97 : decode cX5_mosts 97 = .ok (.istore 9, 2) := by decide +kernel
theorem dX5_mosts_99 : decode cX5_mosts 99 = .ok (.iload 9, 2) := by decide +kernel
theorem dX5_mosts_101 : decode cX5_mosts 101 = .ok (.bipush 6, 2) := by decide +kernel
theorem dX5_mosts_103 : decode cX5_mosts 103 = .ok (.if_icmp .gt 65, 3) := by decide +kernel
theorem dX5_mosts_106 : decode cX5_mosts 106 = .ok (.iload 8, 2) := by decide +kernel
theorem dX5_mosts_108 : decode cX5_mosts 108 = .ok (.ifCond .eq 60, 3) := by decide +kernel
theorem dX5_mosts_111 : decode cX5_mosts 111 = .ok (.iload 5, 2) := by decide +kernel
theorem dX5_mosts_113 : decode cX5_mosts 113 = .ok (.iload 9, 2) := by decide +kernel
theorem dX5_mosts_115 : decode cX5_mosts 115 = .ok (.ishr, 1) := by decide +kernel
theorem dX5_mosts_116 : decode cX5_mosts 116 = .ok (.iconst 1, 1) := by decide +kernel
theorem dX5_mosts_117 : decode cX5_mosts 117 = .ok (.iand, 1) := by decide +kernel
theorem dX5_mosts_118 : decode cX5_mosts 118 = .ok (.iconst 1, 1) := by decide +kernel
theorem dX5_mosts_119 : decode cX5_mosts 119 = .ok (.if_icmp .ne 24, 3) := by decide +kernel
theorem dX5_mosts_122 : decode cX5_mosts 122 = .ok (.iconst 1, 1) := by decide +kernel
theorem dX5_mosts_123 : decode cX5_mosts 123 = .ok (.aload_n 0, 1) := by decide +kernel
theorem dX5_mosts_124 : decode cX5_mosts 124 = .ok (.getfield 38, 3) := by decide +kernel
theorem dX5_mosts_127 : decode cX5_mosts 127 = .ok (.iload 4, 2) := by decide +kernel
theorem dX5_mosts_129 : decode cX5_mosts 129 = .ok (.iload 5, 2) := by decide +kernel
theorem dX5_mosts_131 : decode cX5_mosts 131 = .ok (.iload 7, 2) := by decide +kernel
theorem dX5_mosts_133 : decode cX5_mosts 133 = .ok (.iload 9, 2) := by decide +kernel
theorem dX5_mosts_135 : decode cX5_mosts 135 = .ok (.invokestatic 168, 3) := by decide +kernel
theorem dX5_mosts_138 : decode cX5_mosts 138 = .ok (.iaload, 1) := by decide +kernel
theorem dX5_mosts_139 : decode cX5_mosts 139 = .ok (.iadd, 1) := by decide +kernel
theorem dX5_mosts_140 : decode cX5_mosts 140 = .ok (.goto 4, 3) := by decide +kernel
theorem dX5_mosts_143 : decode cX5_mosts 143 = .ok (.iconst 0, 1) := by decide +kernel
theorem dX5_mosts_144 : decode cX5_mosts 144 = .ok (.istore 10, 2) := by decide +kernel
theorem dX5_mosts_146 : decode cX5_mosts 146 = .ok (.iload 10, 2) := by decide +kernel
theorem dX5_mosts_148 : decode cX5_mosts 148 = .ok (.iload 6, 2) := by decide +kernel
theorem dX5_mosts_150 : decode cX5_mosts 150 = .ok (.if_icmp .le 8, 3) := by decide +kernel
theorem dX5_mosts_153 : decode cX5_mosts 153 = .ok (.iload 10, 2) := by decide +kernel
theorem dX5_mosts_155 : decode cX5_mosts 155 = .ok (.goto 5, 3) := by decide +kernel
theorem dX5_mosts_158 : decode cX5_mosts 158 = .ok (.iload 6, 2) := by decide +kernel
theorem dX5_mosts_160 : decode cX5_mosts 160 = .ok (.istore 6, 2) := by decide +kernel
theorem dX5_mosts_162 : decode cX5_mosts 162 = .ok (.iinc 9 1, 3) := by decide +kernel
theorem dX5_mosts_165 : decode cX5_mosts 165 = .ok (.goto (-66), 3) := by decide +kernel
theorem dX5_mosts_168 : decode cX5_mosts 168 = .ok (.iinc 7 1, 3) := by decide +kernel
theorem dX5_mosts_171 : decode cX5_mosts 171 = .ok (.goto (-113), 3) := by decide +kernel
theorem dX5_mosts_174 : decode cX5_mosts 174 = .ok (.aload_n 0, 1) := by decide +kernel
theorem dX5_mosts_175 : decode cX5_mosts 175 = .ok (.getfield 38, 3) := by decide +kernel
theorem dX5_mosts_178 : decode cX5_mosts 178 = .ok (.iload 4, 2) := by decide +kernel
theorem dX5_mosts_180 : decode cX5_mosts 180 = .ok (.iload 5, 2) := by decide +kernel
theorem dX5_mosts_182 : decode cX5_mosts 182 = .ok (.invokestatic 162, 3) := by decide +kernel
theorem dX5_mosts_185 : decode cX5_mosts 185 = .ok (.iload 6, 2) := by decide +kernel
theorem dX5_mosts_187 : decode cX5_mosts 187 = .ok (.iastore, 1) := by decide +kernel
theorem dX5_mosts_188 : decode cX5_mosts 188 = .ok (.iinc 3 (-1), 3) := by decide +kernel
theorem dX5_mosts_191 : decode cX5_mosts 191 = .ok (.goto (-161), 3) := by decide +kernel
theorem dX5_mosts_194 : decode cX5_mosts 194 = .ok (.return_, 1) := by decide +kernel
theorem dX5_most_0 : decode cX5_most 0 = .ok (.aload_n 0, 1) := by decide +kernel
theorem dX5_most_1 : decode cX5_most 1 = .ok (.iconst 0, 1) := by decide +kernel
theorem dX5_most_2 : decode cX5_most 2 = .ok (.invokevirtual 172, 3) := by decide +kernel
theorem dX5_most_5 : decode cX5_most 5 = .ok (.aload_n 0, 1) := by decide +kernel
theorem dX5_most_6 : decode cX5_most 6 = .ok (.getfield 38, 3) := by decide +kernel
theorem dX5_most_9 : decode cX5_most 9 = .ok (.aload_n 0, 1) := by decide +kernel
theorem dX5_most_10 : decode cX5_most 10 = .ok (.invokevirtual 159, 3) := by decide +kernel
theorem dX5_most_13 : decode cX5_most 13 = .ok (.aload_n 0, 1) := by decide +kernel
theorem dX5_most_14 : decode cX5_most 14 = .ok (.invokevirtual 150, 3) := by decide +kernel
theorem dX5_most_17 : decode cX5_most 17 = .ok (.invokestatic 162, 3) := by decide +kernel
theorem dX5_most_20 : decode cX5_most 20 = .ok (.iaload, 1) := by decide +kernel
theorem dX5_most_21 : decode cX5_most 21 = .ok (.ireturn, 1) := by decide +kernel
theorem dX5_order_0 : decode cX5_order 0 = .ok (.iload_n 1, 1) := by decide +kernel
theorem dX5_order_1 : decode cX5_order 1 = .ok (.ifCond .lt 12, 3) := by decide +kernel
theorem dX5_order_4 : decode cX5_order 4 = .ok (.iload_n 2, 1) := by decide +kernel
theorem dX5_order_5 : decode cX5_order 5 = .ok (.iconst 0, 1) := by decide +kernel
theorem dX5_order_6 : decode cX5_order 6 = .ok (.iconst 1, 1) := by decide +kernel
theorem dX5_order_7 : decode cX5_order 7 = .ok (.invokestatic 48, 3) := by decide +kernel
theorem dX5_order_10 : decode cX5_order 10 = .ok (.ifCond .ne 5, 3) := by decide +kernel
theorem dX5_order_13 : decode cX5_order 13 = .ok (.iconst (-1), 1) := by decide +kernel
theorem dX5_order_14 : decode cX5_order 14 = .ok (.ireturn, 1) := by decide +kernel
theorem dX5_order_15 : decode cX5_order 15 = .ok (.aload_n 0, 1) := by decide +kernel
theorem dX5_order_16 : decode cX5_order 16 = .ok (.iconst 0, 1) := by decide +kernel
theorem dX5_order_17 : decode cX5_order 17 = .ok (.invokevirtual 172, 3) := by decide +kernel
theorem dX5_order_20 : decode cX5_order 20 = .ok (.aload_n 0, 1) := by decide +kernel
theorem dX5_order_21 : decode cX5_order 21 = .ok (.invokevirtual 159, 3) := by decide +kernel
theorem dX5_order_24 : decode cX5_order 24 = .ok (.istore_n 3, 1) := by decide +kernel
theorem dX5_order_25 : decode cX5_order 25 = .ok (.aload_n 0, 1) := by decide +kernel
theorem dX5_order_26 : decode cX5_order 26 = .ok (.invokevirtual 150, 3) := by decide +kernel
theorem dX5_order_29 : decode cX5_order 29 = .ok (.istore 4, 2) := by decide +kernel
theorem dX5_order_31 : decode cX5_order 31 = .ok (.bipush (-5), 2) := by decide +kernel
theorem dX5_order_33 : decode cX5_order 33 = .ok (.istore 5, 2) := by decide +kernel
theorem dX5_order_35 : decode cX5_order 35 = .ok (.iconst 0, 1) := by decide +kernel
theorem dX5_order_36 : decode cX5_order 36 = .ok (.istore 6, 2) := by decide +kernel
theorem dX5_order_38 : decode cX5_order 38 = .ok (.aload_n 0, 1) := by decide +kernel
theorem dX5_order_39 : decode cX5_order 39 = .ok (.getfield 38, 3) := by decide +kernel
theorem dX5_order_42 : decode cX5_order 42 = .ok (.iload_n 3, 1) := by decide +kernel
theorem dX5_order_43 : decode cX5_order 43 = .ok (.iload 4, 2) := by decide +kernel
theorem dX5_order_45 : decode cX5_order 45 = .ok (.invokestatic 162, 3) := by decide +kernel
theorem dX5_order_48 : decode cX5_order 48 = .ok (.iaload, 1) := by decide +kernel
theorem dX5_order_49 : decode cX5_order 49 = .ok (.ifCond .le 184, 3) := by decide +kernel
theorem dX5_order_52 : decode cX5_order 52 = .ok (.iload 6, 2) := by decide +kernel
theorem dX5_order_54 : decode cX5_order 54 = .ok (.iload_n 1, 1) := by decide +kernel
theorem dX5_order_55 : decode cX5_order 55 = .ok (.if_icmp .gt 178, 3) := by decide +kernel
theorem dX5_order_58 : decode cX5_order 58 = .ok (.bipush (-9), 2) := by decide +kernel
theorem dX5_order_60 : decode cX5_order 60 = .ok (.istore 7, 2) := by decide +kernel
theorem dX5_order_62 : decode cX5_order 62 = .ok (.bipush 35, 2) := by decide +kernel
theorem dX5_order_64 : decode cX5_order 64 = .ok (.istore 8, 2) := by decide +kernel
theorem dX5_order_66 : decode cX5_order 66 = .ok (.iload 8, 2) := by decide +kernel
theorem dX5_order_68 : decode cX5_order 68 = .ok (.ifCond .lt 105, 3) := by decide +kernel
theorem dX5_order_71 : decode cX5_order 71 = .ok (.iload 8, 2) := by decide +kernel
theorem dX5_order_73 : decode cX5_order 73 = .ok (.bipush 6, 2) := by decide +kernel
theorem dX5_order_75 : decode cX5_order 75 = .ok (.idiv, 1) := by decide +kernel
theorem dX5_order_76 : decode cX5_order 76 = .ok (.istore 9, 2) := by decide +kernel
theorem dX5_order_78 : decode cX5_order 78 = .ok (.iload 8, 2) := by decide +kernel
theorem dX5_order_80 : decode cX5_order 80 = .ok (.bipush 6, 2) := by decide +kernel
theorem dX5_order_82 : decode cX5_order 82 = .ok (.irem, 1) := by decide +kernel
theorem dX5_order_83 : decode cX5_order 83 = .ok (.istore 10, 2) := by decide +kernel
theorem dX5_order_85 : decode cX5_order 85 = .ok (.aload_n 0, 1) := by decide +kernel
theorem dX5_order_86 : decode cX5_order 86 = .ok (.getfield 32, 3) := by decide +kernel
theorem dX5_order_89 : decode cX5_order 89 = .ok (.iload 4, 2) := by decide +kernel
theorem dX5_order_91 : decode cX5_order 91 = .ok (.iaload, 1) := by decide +kernel
theorem dX5_order_92 : decode cX5_order 92 = .ok (.iload_n 3, 1) := by decide +kernel
theorem dX5_order_93 : decode cX5_order 93 = .ok (.iconst (-1), 1) := by decide +kernel
theorem dX5_order_94 : decode cX5_order 94 = .ok (.ixor, 1) := by decide +kernel
theorem dX5_order_95 : decode cX5_order 95 = .ok (.iand, 1) := by decide +kernel
theorem dX5_order_96 : decode cX5_order 96 = .ok (.iconst 1, 1) := by decide +kernel
theorem dX5_order_97 : decode cX5_order 97 = .ok (.iload 9, 2) := by decide +kernel
theorem dX5_order_99 : decode cX5_order 99 = .ok (.ishl, 1) := by decide +kernel
theorem dX5_order_100 : decode cX5_order 100 = .ok (.iand, 1) := by decide +kernel
theorem dX5_order_101 : decode cX5_order 101 = .ok (.ifCond .eq 18, 3) := by decide +kernel
theorem dX5_order_104 : decode cX5_order 104 = .ok (.iload 4, 2) := by decide +kernel
theorem dX5_order_106 : decode cX5_order 106 = .ok (.iload 10, 2) := by decide +kernel
theorem dX5_order_108 : decode cX5_order 108 = .ok (.ishr, 1) := by decide +kernel
theorem dX5_order_109 : decode cX5_order 109 = .ok (.iconst 1, 1) := by decide +kernel
theorem dX5_order_110 : decode cX5_order 110 = .ok (.iand, 1) := by decide +kernel
theorem dX5_order_111 : decode cX5_order 111 = .ok (.iconst 1, 1) := by decide +kernel
theorem dX5_order_112 : decode cX5_order 112 = .ok (.if_icmp .ne 7, 3) := by decide +kernel
theorem dX5_order_115 : decode cX5_order 115 = .ok (.iconst 1, 1) := by decide +kernel
theorem dX5_order_116 : decode cX5_order 116 = .ok (.goto 4, 3) := by decide +kernel
theorem dX5_order_119 : decode cX5_order 119 = .ok (.iconst 0, 1) := by decide +kernel
theorem dX5_order_120 : decode cX5_order 120 = .ok (.istore 11, 2) := by decide +kernel
theorem dX5_order_122 : decode cX5_order 122 = .ok (.iload 11, 2) := by decide +kernel
theorem dX5_order_124 : decode cX5_order 124 = .ok (.ifCond .eq 39, 3) := by decide +kernel
theorem dX5_order_127 : decode cX5_order 127 = .ok (.aload_n 0, 1) := by decide +kernel
theorem dX5_order_128 : decode cX5_order 128 = .ok (.getfield 38, 3) := by decide +kernel
theorem dX5_order_131 : decode cX5_order 131 = .ok (.iload_n 3, 1) := by decide +kernel
theorem dX5_order_132 : decode cX5_order 132 = .ok (.iload 4, 2) := by decide +kernel
theorem dX5_order_134 : decode cX5_order 134 = .ok (.iload 9, 2) := by decide +kernel
theorem dX5_order_136 : decode cX5_order 136 = .ok (.iload 10, 2) := by decide +kernel
theorem dX5_order_138 : decode cX5_order 138 = .ok (.invokestatic 168, 3) := by decide +kernel
theorem dX5_order_141 : decode cX5_order 141 = .ok (.iaload, 1) := by decide +kernel
theorem dX5_order_142 : decode cX5_order 142 = .ok (.aload_n 0, 1) := by decide +kernel
theorem dX5_order_143 : decode cX5_order 143 = .ok (.getfield 38, 3) := by decide +kernel
theorem dX5_order_146 : decode cX5_order 146 = .ok (.iload_n 3, 1) := by decide +kernel
theorem dX5_order_147 : decode cX5_order 147 = .ok (.iload 4, 2) := by decide +kernel
theorem dX5_order_149 : decode cX5_order 149 = .ok (.invokestatic 162, 3) := by decide +kernel
theorem dX5_order_152 : decode cX5_order 152 = .ok (.iaload, 1) := by decide +kernel
theorem dX5_order_153 : decode cX5_order 153 = .ok (.iconst 1, 1) := by decide +kernel
theorem dX5_order_154 : decode cX5_order 154 = .ok (.isub, 1) := by decide +kernel
theorem dX5_order_155 : decode cX5_order 155 = .ok (.if_icmp .ne 8, 3) := by decide +kernel
theorem dX5_order_158 : decode cX5_order 158 = .ok (.iload 8, 2) := by decide +kernel
theorem dX5_order_160 : decode cX5_order 160 = .ok (.goto 5, 3) := by decide +kernel
theorem dX5_order_163 : decode cX5_order 163 = .ok (.iload 7, 2) := by decide +kernel
theorem dX5_order_165 : decode cX5_order 165 = .ok (.istore 7, 2) := by decide +kernel
theorem dX5_order_167 : decode cX5_order 167 = .ok (.iinc 8 (-1), 3) := by decide +kernel
theorem dX5_order_170 : decode cX5_order 170 = .ok (.goto (-104), 3) := by decide +kernel
theorem dX5_order_173 : decode cX5_order 173 = .ok (.iload 6, 2) := by decide +kernel
theorem dX5_order_175 : decode cX5_order 175 = .ok (.iload_n 1, 1) := by decide +kernel
theorem dX5_order_176 : decode cX5_order 176 = .ok (.if_icmp .ne 23, 3) := by decide +kernel
theorem dX5_order_179 : decode cX5_order 179 = .ok (.iload_n 2, 1) := by decide +kernel
theorem dX5_order_180 : decode cX5_order 180 = .ok (.ifCond .ne 11, 3) := by decide +kernel
theorem dX5_order_183 : decode cX5_order 183 = .ok (.iload 7, 2) := by decide +kernel
theorem dX5_order_185 : decode cX5_order 185 = .ok (.bipush 6, 2) := by decide +kernel
theorem dX5_order_187 : decode cX5_order 187 = .ok (.idiv, 1) := by decide +kernel
theorem dX5_order_188 : decode cX5_order 188 = .ok (.goto 13, 3) := by decide +kernel
theorem dX5_order_191 : decode cX5_order 191 = .ok (.iload 7, 2) := by decide +kernel
theorem dX5_order_193 : decode cX5_order 193 = .ok (.bipush 6, 2) := by decide +kernel
theorem dX5_order_195 : decode cX5_order 195 = .ok (.irem, 1) := by decide +kernel
theorem dX5_order_196 : decode cX5_order 196 = .ok (.goto 5, 3) := by decide +kernel
theorem dX5_order_199 : decode cX5_order 199 = .ok (.iload 5, 2) := by decide +kernel
theorem dX5_order_201 : decode cX5_order 201 = .ok (.istore 5, 2) := by decide +kernel
theorem dX5_order_203 : decode cX5_order 203 = .ok (.iload_n 3, 1) := by decide +kernel
theorem dX5_order_204 : decode cX5_order 204 = .ok (.iconst 1, 1) := by decide +kernel
theorem dX5_order_205 : decode cX5_order 205 = .ok (.iload 7, 2) := by decide +kernel
theorem dX5_order_207 : decode cX5_order 207 = .ok (.bipush 6, 2) := by decide +kernel
theorem dX5_order_209 : decode cX5_order 209 = .ok (.idiv, 1) := by decide +kernel
theorem dX5_order_210 : decode cX5_order 210 = .ok (.ishl, 1) := by decide +kernel
theorem dX5_order_211 : decode cX5_order 211 = .ok (.ior, 1) := by decide +kernel
theorem dX5_order_212 : decode cX5_order 212 = .ok (.istore_n 3, 1) := by decide +kernel
theorem dX5_order_213 : decode cX5_order 213 = .ok (.iload 4, 2) := by decide +kernel
theorem dX5_order_215 : decode cX5_order 215 = .ok (.iconst 1, 1) := by decide +kernel
theorem dX5_order_216 : decode cX5_order 216 = .ok (.iload 7, 2) := by decide +kernel
theorem dX5_order_218 : decode cX5_order 218 = .ok (.bipush 6, 2) := by decide +kernel
theorem dX5_order_220 : decode cX5_order 220 = .ok (.irem, 1) := by decide +kernel
theorem dX5_order_221 : decode cX5_order 221 = .ok (.ishl, 1) := by decide +kernel
theorem dX5_order_222 : decode cX5_order 222 = .ok (.iconst (-1), 1) := by decide +kernel
theorem dX5_order_223 : decode cX5_order 223 = .ok (.ixor, 1) := by decide +kernel
theorem dX5_order_224 : decode cX5_order 224 = .ok (.iand, 1) := by decide +kernel
theorem dX5_order_225 : decode cX5_order 225 = .ok (.istore 4, 2) := by decide +kernel
theorem dX5_order_227 : decode cX5_order 227 = .ok (.iinc 6 1, 3) := by decide +kernel
theorem dX5_order_230 : decode cX5_order 230 = .ok (.goto (-192), 3) := by decide +kernel
theorem dX5_order_233 : decode cX5_order 233 = .ok (.iload 5, 2) := by decide +kernel
theorem dX5_order_235 : decode cX5_order 235 = .ok (.ireturn, 1) := by decide +kernel
theorem dX5_alls_0 : decode cX5_alls 0 = .ok (.aload_n 0, 1) := by decide +kernel
theorem dX5_alls_1 : decode cX5_alls 1 = .ok (.iconst 0, 1) := by decide +kernel
theorem dX5_alls_2 : decode cX5_alls 2 = .ok (.invokevirtual 146, 3) := by decide +kernel
theorem dX5_alls_5 : decode cX5_alls 5 = .ok (.aload_n 0, 1) := by decide +kernel
theorem dX5_alls_6 : decode cX5_alls 6 = .ok (.invokevirtual 165, 3) := by decide +kernel
theorem dX5_alls_9 : decode cX5_alls 9 = .ok (.istore_n 1, 1) := by decide +kernel
theorem dX5_alls_10 : decode cX5_alls 10 = .ok (.iload_n 1, 1) := by decide +kernel
theorem dX5_alls_11 : decode cX5_alls 11 = .ok (.ifCond .lt 263, 3) := by decide +kernel
theorem dX5_alls_14 : decode cX5_alls 14 = .ok (.iconst 0, 1) := by decide +kernel
theorem dX5_alls_15 : decode cX5_alls 15 = .ok (.istore_n 2, 1) := by decide +kernel
theorem dX5_alls_16 : decode cX5_alls 16 = .ok (.iload_n 2, 1) := by decide +kernel
theorem dX5_alls_17 : decode cX5_alls 17 = .ok (.aload_n 0, 1) := by decide +kernel
theorem dX5_alls_18 : decode cX5_alls 18 = .ok (.invokevirtual 128, 3) := by decide +kernel
theorem dX5_alls_21 : decode cX5_alls 21 = .ok (.if_icmp .gt 247, 3) := by decide +kernel
theorem dX5_alls_24 : decode cX5_alls 24 = .ok (.iload_n 1, 1) := by decide +kernel
theorem dX5_alls_25 : decode cX5_alls 25 = .ok (.aload_n 0, 1) := by decide +kernel
theorem dX5_alls_26 : decode cX5_alls 26 = .ok (.invokevirtual 165, 3) := by decide +kernel
theorem dX5_alls_29 : decode cX5_alls 29 = .ok (.if_icmp .ne 7, 3) := by decide +kernel
theorem dX5_alls_32 : decode cX5_alls 32 = .ok (.iconst 1, 1) := by decide +kernel
theorem dX5_alls_33 : decode cX5_alls 33 = .ok (.goto 4, 3) := by decide +kernel
theorem dX5_alls_36 : decode cX5_alls 36 = .ok (.iconst 0, 1) := by decide +kernel
theorem dX5_alls_37 : decode cX5_alls 37 = .ok (.istore_n 3, 1) := by decide +kernel
theorem dX5_alls_38 : decode cX5_alls 38 = .ok (.iload_n 3, 1) := by decide +kernel
theorem dX5_alls_39 : decode cX5_alls 39 = .ok (.ifCond .eq 7, 3) := by decide +kernel
theorem dX5_alls_42 : decode cX5_alls 42 = .ok (.iconst 1, 1) := by decide +kernel
theorem dX5_alls_43 : decode cX5_alls 43 = .ok (.goto 4, 3) := by decide +kernel
theorem dX5_alls_46 : decode cX5_alls 46 = .ok (.iconst 0, 1) := by decide +kernel
theorem dX5_alls_47 : decode cX5_alls 47 = .ok (.istore 4, 2) := by decide +kernel
theorem dX5_alls_49 : decode cX5_alls 49 = .ok (.iload_n 3, 1) := by decide +kernel
theorem dX5_alls_50 : decode cX5_alls 50 = .ok (.ifCond .eq 7, 3) := by decide +kernel
theorem dX5_alls_53 : decode cX5_alls 53 = .ok (.iconst 0, 1) := by decide +kernel
theorem dX5_alls_54 : decode cX5_alls 54 = .ok (.goto 6, 3) := by decide +kernel
theorem dX5_alls_57 : decode cX5_alls 57 = .ok (.sipush 10000, 3) := by decide +kernel
theorem dX5_alls_60 : decode cX5_alls 60 = .ok (.istore 5, 2) := by decide +kernel
theorem dX5_alls_62 : decode cX5_alls 62 = .ok (.iconst 0, 1) := by decide +kernel
theorem dX5_alls_63 : decode cX5_alls 63 = .ok (.istore 6, 2) := by decide +kernel
theorem dX5_alls_65 : decode cX5_alls 65 = .ok (.iload 6, 2) := by decide +kernel
theorem dX5_alls_67 : decode cX5_alls 67 = .ok (.aload_n 0, 1) := by decide +kernel
theorem dX5_alls_68 : decode cX5_alls 68 = .ok (.getfield 13, 3) := by decide +kernel
theorem dX5_alls_71 : decode cX5_alls 71 = .ok (.iconst 4, 1) := by decide +kernel
theorem dX5_alls_72 : decode cX5_alls 72 = .ok (.iaload, 1) := by decide +kernel
theorem dX5_alls_73 : decode cX5_alls 73 = .ok (.if_icmp .ge 165, 3) := by decide +kernel
theorem dX5_alls_76 : decode cX5_alls 76 = .ok (.aload_n 0, 1) := by decide +kernel
theorem dX5_alls_77 : decode cX5_alls 77 = .ok (.getfield 32, 3) := by decide +kernel
theorem dX5_alls_80 : decode cX5_alls 80 = .ok (.iload_n 2, 1) := by decide +kernel
theorem dX5_alls_81 : decode cX5_alls 81 = .ok (.iaload, 1) := by decide +kernel
theorem dX5_alls_82 : decode cX5_alls 82 = .ok (.iload_n 1, 1) := by decide +kernel
theorem dX5_alls_83 : decode cX5_alls 83 = .ok (.iconst (-1), 1) := by decide +kernel
theorem dX5_alls_84 : decode cX5_alls 84 = .ok (.ixor, 1) := by decide +kernel
theorem dX5_alls_85 : decode cX5_alls 85 = .ok (.iand, 1) := by decide +kernel
theorem dX5_alls_86 : decode cX5_alls 86 = .ok (.iconst 1, 1) := by decide +kernel
theorem dX5_alls_87 : decode cX5_alls 87 = .ok (.iload 6, 2) := by decide +kernel
theorem dX5_alls_89 : decode cX5_alls 89 = .ok (.ishl, 1) := by decide +kernel
theorem dX5_alls_90 : decode cX5_alls 90 = .ok (.iand, 1) := by decide +kernel
theorem dX5_alls_91 : decode cX5_alls 91 = .ok (.ifCond .eq 7, 3) := by decide +kernel
theorem dX5_alls_94 : decode cX5_alls 94 = .ok (.iconst 1, 1) := by decide +kernel
theorem dX5_alls_95 : decode cX5_alls 95 = .ok (.goto 4, 3) := by decide +kernel
theorem dX5_alls_98 : decode cX5_alls 98 = .ok (.iconst 0, 1) := by decide +kernel
theorem dX5_alls_99 : decode cX5_alls 99 = .ok (.istore 7, 2) := by decide +kernel
theorem dX5_alls_101 : decode cX5_alls 101 = .ok (.aload_n 0, 1) := by decide +kernel
theorem dX5_alls_102 : decode cX5_alls 102 = .ok (.getfield 13, 3) := by decide +kernel
theorem dX5_alls_105 : decode cX5_alls 105 = .ok (.bipush 25, 2) := by decide +kernel
theorem dX5_alls_107 : decode cX5_alls 107 = .ok (.iload 6, 2) := by decide +kernel
theorem dX5_alls_109 : decode cX5_alls 109 = .ok (.iadd, 1) := by decide +kernel
theorem dX5_alls_110 : decode cX5_alls 110 = .ok (.iaload, 1) := by decide +kernel
theorem dX5_alls_111 : decode cX5_alls 111 = .ok (.iload_n 1, 1) := by decide +kernel
theorem dX5_alls_112 : decode cX5_alls 112 = .ok (.invokestatic 175, 3) := by decide +kernel
theorem dX5_alls_115 : decode cX5_alls 115 = .ok (.isub, 1) := by decide +kernel
theorem dX5_alls_116 : decode cX5_alls 116 = .ok (.istore 8, 2) := by decide +kernel
theorem dX5_alls_118 : decode cX5_alls 118 = .ok (.iconst 0, 1) := by decide +kernel
theorem dX5_alls_119 : decode cX5_alls 119 = .ok (.istore 9, 2) := by decide +kernel
theorem dX5_alls_121 : decode cX5_alls 121 = .ok (.iload 9, 2) := by decide +kernel
theorem dX5_alls_123 : decode cX5_alls 123 = .ok (.bipush 6, 2) := by decide +kernel
theorem dX5_alls_125 : decode cX5_alls 125 = .ok (.if_icmp .ge 107, 3) := by decide +kernel
theorem dX5_alls_128 : decode cX5_alls 128 = .ok (.iload 7, 2) := by decide +kernel
theorem dX5_alls_130 : decode cX5_alls 130 = .ok (.ifCond .eq 102, 3) := by decide +kernel
theorem dX5_alls_133 : decode cX5_alls 133 = .ok (.iload_n 1, 1) := by decide +kernel
theorem dX5_alls_134 : decode cX5_alls 134 = .ok (.iload_n 2, 1) := by decide +kernel
theorem dX5_alls_135 : decode cX5_alls 135 = .ok (.iload 6, 2) := by decide +kernel
theorem dX5_alls_137 : decode cX5_alls 137 = .ok (.iload 9, 2) := by decide +kernel
theorem dX5_alls_139 : decode cX5_alls 139 = .ok (.invokestatic 168, 3) := by decide +kernel
theorem dX5_alls_142 : decode cX5_alls 142 = .ok (.istore 10, 2) := by decide +kernel
theorem dX5_alls_144 : decode cX5_alls 144 = .ok (.iload_n 2, 1) := by decide +kernel
theorem dX5_alls_145 : decode cX5_alls 145 = .ok (.iload 9, 2) := by decide +kernel
theorem dX5_alls_147 : decode cX5_alls 147 = .ok (.ishr, 1) := by decide +kernel
theorem dX5_alls_148 : decode cX5_alls 148 = .ok (.iconst 1, 1) := by decide +kernel
theorem dX5_alls_149 : decode cX5_alls 149 = .ok (.iand, 1) := by decide +kernel
theorem dX5_alls_150 : decode cX5_alls 150 = .ok (.iconst 1, 1) := by decide +kernel
theorem dX5_alls_151 : decode cX5_alls 151 = .ok (.if_icmp .ne 7, 3) := by decide +kernel
theorem dX5_alls_154 : decode cX5_alls 154 = .ok (.iconst 1, 1) := by decide +kernel
theorem dX5_alls_155 : decode cX5_alls 155 = .ok (.goto 4, 3) := by decide +kernel
theorem dX5_alls_158 : decode cX5_alls 158 = .ok (.iconst 0, 1) := by decide +kernel
theorem dX5_alls_159 : decode cX5_alls 159 = .ok (.istore 11, 2) := by decide +kernel
theorem dX5_alls_161 : decode cX5_alls 161 = .ok (.aload_n 0, 1) := by decide +kernel
theorem dX5_alls_162 : decode cX5_alls 162 = .ok (.getfield 41, 3) := by decide +kernel
theorem dX5_alls_165 : decode cX5_alls 165 = .ok (.iload 10, 2) := by decide +kernel
theorem dX5_alls_167 : decode cX5_alls 167 = .ok (.iaload, 1) := by decide +kernel
theorem dX5_alls_168 : decode cX5_alls 168 = .ok (.iload 8, 2) := by decide +kernel
theorem dX5_alls_170 : decode cX5_alls 170 = .ok (.ifCond .ge 9, 3) := by decide +kernel
theorem dX5_alls_173 : decode cX5_alls 173 = .ok (.iload 8, 2) := by decide +kernel
theorem dX5_alls_175 : decode cX5_alls 175 = .ok (.ineg, 1) := by decide +kernel
theorem dX5_alls_176 : decode cX5_alls 176 = .ok (.goto 5, 3) := by decide +kernel
theorem dX5_alls_179 : decode cX5_alls 179 = .ok (.iload 8, 2) := by decide +kernel
theorem dX5_alls_181 : decode cX5_alls 181 = .ok (.iadd, 1) := by decide +kernel
theorem dX5_alls_182 : decode cX5_alls 182 = .ok (.istore 12, 2) := by decide +kernel
theorem dX5_alls_184 : decode cX5_alls 184 = .ok (.iload 4, 2) := by decide +kernel
theorem dX5_alls_186 : decode cX5_alls 186 = .ok (.iload 11, 2) := by decide +kernel
theorem dX5_alls_188 : decode cX5_alls 188 = .ok (.ifCond .eq 13, 3) := by decide +kernel
theorem dX5_alls_191 : decode cX5_alls 191 = .ok (.aload_n 0, 1) := by decide +kernel
theorem dX5_alls_192 : decode cX5_alls 192 = .ok (.getfield 38, 3) := by decide +kernel
theorem dX5_alls_195 : decode cX5_alls 195 = .ok (.iload 10, 2) := by decide +kernel
theorem dX5_alls_197 : decode cX5_alls 197 = .ok (.iaload, 1) := by decide +kernel
theorem dX5_alls_198 : decode cX5_alls 198 = .ok (.goto 4, 3) := by decide +kernel
theorem dX5_alls_201 : decode cX5_alls 201 = .ok (.iconst 0, 1) := by decide +kernel
theorem dX5_alls_202 : decode cX5_alls 202 = .ok (.iadd, 1) := by decide +kernel
theorem dX5_alls_203 : decode cX5_alls 203 = .ok (.istore 4, 2) := by decide +kernel
theorem dX5_alls_205 : decode cX5_alls 205 = .ok (.iload 11, 2) := by decide +kernel
theorem dX5_alls_207 : decode cX5_alls 207 = .ok (.ifCond .eq 15, 3) := by decide +kernel
theorem dX5_alls_210 : decode cX5_alls 210 = .ok (.iload 12, 2) := by decide +kernel
theorem dX5_alls_212 : decode cX5_alls 212 = .ok (.iload 5, 2) := by decide +kernel
theorem dX5_alls_214 : decode cX5_alls 214 = .ok (.if_icmp .ge 8, 3) := by decide +kernel
theorem dX5_alls_217 : decode cX5_alls 217 = .ok (.iload 12, 2) := by decide +kernel
theorem dX5_alls_219 : decode cX5_alls 219 = .ok (.goto 5, 3) := by decide +kernel
theorem dX5_alls_222 : decode cX5_alls 222 = .ok (.iload 5, 2) := by decide +kernel
theorem dX5_alls_224 : decode cX5_alls 224 = .ok (.istore 5, 2) := by decide +kernel
theorem dX5_alls_226 : decode cX5_alls 226 = .ok (.iinc 9 1, 3) := by decide +kernel
theorem dX5_alls_229 : decode cX5_alls 229 = .ok (.goto (-108), 3) := by decide +kernel
theorem dX5_alls_232 : decode cX5_alls 232 = .ok (.iinc 6 1, 3) := by decide +kernel
theorem dX5_alls_235 : decode cX5_alls 235 = .ok (.goto (-170), 3) := by decide +kernel
theorem dX5_alls_238 : decode cX5_alls 238 = .ok (.aload_n 0, 1) := by decide +kernel
theorem dX5_alls_239 : decode cX5_alls 239 = .ok (.getfield 38, 3) := by decide +kernel
theorem dX5_alls_242 : decode cX5_alls 242 = .ok (.iload_n 1, 1) := by decide +kernel
theorem dX5_alls_243 : decode cX5_alls 243 = .ok (.iload_n 2, 1) := by decide +kernel
theorem dX5_alls_244 : decode cX5_alls 244 = .ok (.invokestatic 162, 3) := by decide +kernel
theorem dX5_alls_247 : decode cX5_alls 247 = .ok (.iload 4, 2) := by decide +kernel
theorem dX5_alls_249 : decode cX5_alls 249 = .ok (.iastore, 1) := by decide +kernel
theorem dX5_alls_250 : decode cX5_alls 250 = .ok (.aload_n 0, 1) := by decide +kernel
theorem dX5_alls_251 : decode cX5_alls 251 = .ok (.getfield 41, 3) := by decide +kernel
theorem dX5_alls_254 : decode cX5_alls 254 = .ok (.iload_n 1, 1) := by decide +kernel
theorem dX5_alls_255 : decode cX5_alls 255 = .ok (.iload_n 2, 1) := by decide +kernel
theorem dX5_alls_256 : decode cX5_alls 256 = .ok (.invokestatic 162, 3) := by decide +kernel
theorem dX5_alls_259 : decode cX5_alls 259 = .ok (.iload 5, 2) := by decide +kernel
theorem dX5_alls_261 : decode cX5_alls 261 = .ok (.iastore, 1) := by decide +kernel
theorem dX5_alls_262 : decode cX5_alls 262 = .ok (.iinc 2 1, 3) := by decide +kernel
theorem dX5_alls_265 : decode cX5_alls 265 = .ok (.goto (-249), 3) := by decide +kernel
theorem dX5_alls_268 : decode cX5_alls 268 = .ok (.iinc 1 (-1), 3) := by decide +kernel
theorem dX5_alls_271 : decode cX5_alls 271 = .ok (.goto (-261), 3) := by decide +kernel
theorem dX5_alls_274 : decode cX5_alls 274 = .ok (.return_, 1) := by decide +kernel
theorem dX5_rows_0 : decode cX5_rows 0 = .ok (.aload_n 0, 1) := by decide +kernel
theorem dX5_rows_1 : decode cX5_rows 1 = .ok (.invokevirtual 178, 3) := by decide +kernel
theorem dX5_rows_4 : decode cX5_rows 4 = .ok (.aload_n 0, 1) := by decide +kernel
theorem dX5_rows_5 : decode cX5_rows 5 = .ok (.getfield 38, 3) := by decide +kernel
theorem dX5_rows_8 : decode cX5_rows 8 = .ok (.aload_n 0, 1) := by decide +kernel
theorem dX5_rows_9 : decode cX5_rows 9 = .ok (.invokevirtual 159, 3) := by decide +kernel
theorem dX5_rows_12 : decode cX5_rows 12 = .ok (.aload_n 0, 1) := by decide +kernel
theorem dX5_rows_13 : decode cX5_rows 13 = .ok (.invokevirtual 150, 3) := by decide +kernel
theorem dX5_rows_16 : decode cX5_rows 16 = .ok (.invokestatic 162, 3) := by decide +kernel
theorem dX5_rows_19 : decode cX5_rows 19 = .ok (.iaload, 1) := by decide +kernel
theorem dX5_rows_20 : decode cX5_rows 20 = .ok (.ireturn, 1) := by decide +kernel
theorem dX5_bar_0 : decode cX5_bar 0 = .ok (.aload_n 0, 1) := by decide +kernel
theorem dX5_bar_1 : decode cX5_bar 1 = .ok (.iconst 0, 1) := by decide +kernel
theorem dX5_bar_2 : decode cX5_bar 2 = .ok (.invokevirtual 172, 3) := by decide +kernel
theorem dX5_bar_5 : decode cX5_bar 5 = .ok (.aload_n 0, 1) := by decide +kernel
theorem dX5_bar_6 : decode cX5_bar 6 = .ok (.invokevirtual 159, 3) := by decide +kernel
theorem dX5_bar_9 : decode cX5_bar 9 = .ok (.istore_n 1, 1) := by decide +kernel
theorem dX5_bar_10 : decode cX5_bar 10 = .ok (.aload_n 0, 1) := by decide +kernel
theorem dX5_bar_11 : decode cX5_bar 11 = .ok (.invokevirtual 150, 3) := by decide +kernel
theorem dX5_bar_14 : decode cX5_bar 14 = .ok (.istore_n 2, 1) := by decide +kernel
theorem dX5_bar_15 : decode cX5_bar 15 = .ok (.bipush (-9), 2) := by decide +kernel
theorem dX5_bar_17 : decode cX5_bar 17 = .ok (.istore_n 3, 1) := by decide +kernel
theorem dX5_bar_18 : decode cX5_bar 18 = .ok (.iconst 1, 1) := by decide +kernel
theorem dX5_bar_19 : decode cX5_bar 19 = .ok (.istore 4, 2) := by decide +kernel
theorem dX5_bar_21 : decode cX5_bar 21 = .ok (.iload 4, 2) := by decide +kernel
theorem dX5_bar_23 : decode cX5_bar 23 = .ok (.iload_n 2, 1) := by decide +kernel
theorem dX5_bar_24 : decode cX5_bar 24 = .ok (.if_icmp .gt 83, 3) := by decide +kernel
theorem dX5_bar_27 : decode cX5_bar 27 = .ok (.iload 4, 2) := by decide +kernel
theorem dX5_bar_29 : decode cX5_bar 29 = .ok (.iload_n 2, 1) := by decide +kernel
theorem dX5_bar_30 : decode cX5_bar 30 = .ok (.iconst (-1), 1) := by decide +kernel
theorem dX5_bar_31 : decode cX5_bar 31 = .ok (.ixor, 1) := by decide +kernel
theorem dX5_bar_32 : decode cX5_bar 32 = .ok (.iand, 1) := by decide +kernel
theorem dX5_bar_33 : decode cX5_bar 33 = .ok (.ifCond .ne 35, 3) := by decide +kernel
theorem dX5_bar_36 : decode cX5_bar 36 = .ok (.aload_n 0, 1) := by decide +kernel
theorem dX5_bar_37 : decode cX5_bar 37 = .ok (.getfield 38, 3) := by decide +kernel
theorem dX5_bar_40 : decode cX5_bar 40 = .ok (.iload_n 1, 1) := by decide +kernel
theorem dX5_bar_41 : decode cX5_bar 41 = .ok (.iload_n 2, 1) := by decide +kernel
theorem dX5_bar_42 : decode cX5_bar 42 = .ok (.iload 4, 2) := by decide +kernel
theorem dX5_bar_44 : decode cX5_bar 44 = .ok (.iconst (-1), 1) := by decide +kernel
theorem dX5_bar_45 : decode cX5_bar 45 = .ok (.ixor, 1) := by decide +kernel
theorem dX5_bar_46 : decode cX5_bar 46 = .ok (.iand, 1) := by decide +kernel
theorem dX5_bar_47 : decode cX5_bar 47 = .ok (.invokestatic 162, 3) := by decide +kernel
theorem dX5_bar_50 : decode cX5_bar 50 = .ok (.iaload, 1) := by decide +kernel
theorem dX5_bar_51 : decode cX5_bar 51 = .ok (.aload_n 0, 1) := by decide +kernel
theorem dX5_bar_52 : decode cX5_bar 52 = .ok (.getfield 38, 3) := by decide +kernel
theorem dX5_bar_55 : decode cX5_bar 55 = .ok (.iload_n 1, 1) := by decide +kernel
theorem dX5_bar_56 : decode cX5_bar 56 = .ok (.iload_n 2, 1) := by decide +kernel
theorem dX5_bar_57 : decode cX5_bar 57 = .ok (.invokestatic 162, 3) := by decide +kernel
theorem dX5_bar_60 : decode cX5_bar 60 = .ok (.iaload, 1) := by decide +kernel
theorem dX5_bar_61 : decode cX5_bar 61 = .ok (.if_icmp .ge 7, 3) := by decide +kernel
theorem dX5_bar_64 : decode cX5_bar 64 = .ok (.iconst 1, 1) := by decide +kernel
theorem dX5_bar_65 : decode cX5_bar 65 = .ok (.goto 4, 3) := by decide +kernel
theorem dX5_bar_68 : decode cX5_bar 68 = .ok (.iconst 0, 1) := by decide +kernel
theorem dX5_bar_69 : decode cX5_bar 69 = .ok (.istore 5, 2) := by decide +kernel
theorem dX5_bar_71 : decode cX5_bar 71 = .ok (.iload 5, 2) := by decide +kernel
theorem dX5_bar_73 : decode cX5_bar 73 = .ok (.ifCond .eq 26, 3) := by decide +kernel
theorem dX5_bar_76 : decode cX5_bar 76 = .ok (.iload_n 3, 1) := by decide +kernel
theorem dX5_bar_77 : decode cX5_bar 77 = .ok (.bipush (-9), 2) := by decide +kernel
theorem dX5_bar_79 : decode cX5_bar 79 = .ok (.if_icmp .eq 15, 3) := by decide +kernel
theorem dX5_bar_82 : decode cX5_bar 82 = .ok (.iload 4, 2) := by decide +kernel
theorem dX5_bar_84 : decode cX5_bar 84 = .ok (.invokestatic 175, 3) := by decide +kernel
theorem dX5_bar_87 : decode cX5_bar 87 = .ok (.iload_n 3, 1) := by decide +kernel
theorem dX5_bar_88 : decode cX5_bar 88 = .ok (.invokestatic 175, 3) := by decide +kernel
theorem dX5_bar_91 : decode cX5_bar 91 = .ok (.if_icmp .ge 8, 3) := by decide +kernel
theorem dX5_bar_94 : decode cX5_bar 94 = .ok (.iload 4, 2) := by decide +kernel
theorem dX5_bar_96 : decode cX5_bar 96 = .ok (.goto 4, 3) := by decide +kernel
theorem dX5_bar_99 : decode cX5_bar 99 = .ok (.iload_n 3, 1) := by decide +kernel
theorem dX5_bar_100 : decode cX5_bar 100 = .ok (.istore_n 3, 1) := by decide +kernel
theorem dX5_bar_101 : decode cX5_bar 101 = .ok (.iinc 4 1, 3) := by decide +kernel
theorem dX5_bar_104 : decode cX5_bar 104 = .ok (.goto (-83), 3) := by decide +kernel
theorem dX5_bar_107 : decode cX5_bar 107 = .ok (.iload_n 3, 1) := by decide +kernel
theorem dX5_bar_108 : decode cX5_bar 108 = .ok (.ireturn, 1) := by decide +kernel
theorem dX5_grief_0 : decode cX5_grief 0 = .ok (.aload_n 0, 1) := by decide +kernel
theorem dX5_grief_1 : decode cX5_grief 1 = .ok (.invokevirtual 178, 3) := by decide +kernel
theorem dX5_grief_4 : decode cX5_grief 4 = .ok (.aload_n 0, 1) := by decide +kernel
theorem dX5_grief_5 : decode cX5_grief 5 = .ok (.getfield 41, 3) := by decide +kernel
theorem dX5_grief_8 : decode cX5_grief 8 = .ok (.aload_n 0, 1) := by decide +kernel
theorem dX5_grief_9 : decode cX5_grief 9 = .ok (.invokevirtual 159, 3) := by decide +kernel
theorem dX5_grief_12 : decode cX5_grief 12 = .ok (.aload_n 0, 1) := by decide +kernel
theorem dX5_grief_13 : decode cX5_grief 13 = .ok (.invokevirtual 150, 3) := by decide +kernel
theorem dX5_grief_16 : decode cX5_grief 16 = .ok (.invokestatic 162, 3) := by decide +kernel
theorem dX5_grief_19 : decode cX5_grief 19 = .ok (.iaload, 1) := by decide +kernel
theorem dX5_grief_20 : decode cX5_grief 20 = .ok (.istore_n 1, 1) := by decide +kernel
theorem dX5_grief_21 : decode cX5_grief 21 = .ok (.iload_n 1, 1) := by decide +kernel
theorem dX5_grief_22 : decode cX5_grief 22 = .ok (.sipush 10000, 3) := by decide +kernel
theorem dX5_grief_25 : decode cX5_grief 25 = .ok (.if_icmp .lt 8, 3) := by decide +kernel
theorem dX5_grief_28 : decode cX5_grief 28 = .ok (.bipush (-9), 2) := by decide +kernel
theorem dX5_grief_30 : decode cX5_grief 30 = .ok (.goto 4, 3) := by decide +kernel
theorem dX5_grief_33 : decode cX5_grief 33 = .ok (.iload_n 1, 1) := by decide +kernel
theorem dX5_grief_34 : decode cX5_grief 34 = .ok (.ireturn, 1) := by decide +kernel
theorem dX5_game_0 : decode cX5_game 0 = .ok (.aload_n 0, 1) := by decide +kernel
theorem dX5_game_1 : decode cX5_game 1 = .ok (.iconst 0, 1) := by decide +kernel
theorem dX5_game_2 : decode cX5_game 2 = .ok (.invokevirtual 146, 3) := by decide +kernel
theorem dX5_game_5 : decode cX5_game 5 = .ok (.aload_n 0, 1) := by decide +kernel
theorem dX5_game_6 : decode cX5_game 6 = .ok (.invokevirtual 165, 3) := by decide +kernel
theorem dX5_game_9 : decode cX5_game 9 = .ok (.istore_n 1, 1) := by decide +kernel
theorem dX5_game_10 : decode cX5_game 10 = .ok (.iload_n 1, 1) := by decide +kernel
theorem dX5_game_11 : decode cX5_game 11 = .ok (.ifCond .lt 200, 3) := by decide +kernel
theorem dX5_game_14 : decode cX5_game 14 = .ok (.iconst 0, 1) := by decide +kernel
theorem dX5_game_15 : decode cX5_game 15 = .ok (.istore_n 2, 1) := by decide +kernel
theorem dX5_game_16 : decode cX5_game 16 = .ok (.iload_n 2, 1) := by decide +kernel
theorem dX5_game_17 : decode cX5_game 17 = .ok (.aload_n 0, 1) := by decide +kernel
theorem dX5_game_18 : decode cX5_game 18 = .ok (.invokevirtual 128, 3) := by decide +kernel
theorem dX5_game_21 : decode cX5_game 21 = .ok (.if_icmp .gt 184, 3) := by decide +kernel
theorem dX5_game_24 : decode cX5_game 24 = .ok (.iconst 0, 1) := by decide +kernel
theorem dX5_game_25 : decode cX5_game 25 = .ok (.istore_n 3, 1) := by decide +kernel
theorem dX5_game_26 : decode cX5_game 26 = .ok (.iconst 0, 1) := by decide +kernel
theorem dX5_game_27 : decode cX5_game 27 = .ok (.istore 4, 2) := by decide +kernel
theorem dX5_game_29 : decode cX5_game 29 = .ok (.iload 4, 2) := by decide +kernel
theorem dX5_game_31 : decode cX5_game 31 = .ok (.aload_n 0, 1) := by decide +kernel
theorem dX5_game_32 : decode cX5_game 32 = .ok (.getfield 13, 3) := by decide +kernel
theorem dX5_game_35 : decode cX5_game 35 = .ok (.iconst 4, 1) := by decide +kernel
theorem dX5_game_36 : decode cX5_game 36 = .ok (.iaload, 1) := by decide +kernel
theorem dX5_game_37 : decode cX5_game 37 = .ok (.if_icmp .ge 136, 3) := by decide +kernel
theorem dX5_game_40 : decode cX5_game 40 = .ok (.aload_n 0, 1) := by decide +kernel
theorem dX5_game_41 : decode cX5_game 41 = .ok (.getfield 32, 3) := by decide +kernel
theorem dX5_game_44 : decode cX5_game 44 = .ok (.iload_n 2, 1) := by decide +kernel
theorem dX5_game_45 : decode cX5_game 45 = .ok (.iaload, 1) := by decide +kernel
theorem dX5_game_46 : decode cX5_game 46 = .ok (.iload_n 1, 1) := by decide +kernel
theorem dX5_game_47 : decode cX5_game 47 = .ok (.iconst (-1), 1) := by decide +kernel
theorem dX5_game_48 : decode cX5_game 48 = .ok (.ixor, 1) := by decide +kernel
theorem dX5_game_49 : decode cX5_game 49 = .ok (.iand, 1) := by decide +kernel
theorem dX5_game_50 : decode cX5_game 50 = .ok (.iconst 1, 1) := by decide +kernel
theorem dX5_game_51 : decode cX5_game 51 = .ok (.iload 4, 2) := by decide +kernel
theorem dX5_game_53 : decode cX5_game 53 = .ok (.ishl, 1) := by decide +kernel
theorem dX5_game_54 : decode cX5_game 54 = .ok (.iand, 1) := by decide +kernel
theorem dX5_game_55 : decode cX5_game 55 = .ok (.ifCond .eq 7, 3) := by decide +kernel
theorem dX5_game_58 : decode cX5_game 58 = .ok (.iconst 1, 1) := by decide +kernel
theorem dX5_game_59 : decode cX5_game 59 = .ok (.goto 4, 3) := by decide +kernel
theorem dX5_game_62 : decode cX5_game 62 = .ok (.iconst 0, 1) := by decide +kernel
theorem dX5_game_63 : decode cX5_game 63 = .ok (.istore 5, 2) := by decide +kernel
theorem dX5_game_65 : decode cX5_game 65 = .ok (.aload_n 0, 1) := by decide +kernel
theorem dX5_game_66 : decode cX5_game 66 = .ok (.getfield 13, 3) := by decide +kernel
theorem dX5_game_69 : decode cX5_game 69 = .ok (.bipush 31, 2) := by decide +kernel
theorem dX5_game_71 : decode cX5_game 71 = .ok (.iload 4, 2) := by decide +kernel
theorem dX5_game_73 : decode cX5_game 73 = .ok (.iadd, 1) := by decide +kernel
theorem dX5_game_74 : decode cX5_game 74 = .ok (.iaload, 1) := by decide +kernel
theorem dX5_game_75 : decode cX5_game 75 = .ok (.istore 6, 2) := by decide +kernel
theorem dX5_game_77 : decode cX5_game 77 = .ok (.iconst 0, 1) := by decide +kernel
theorem dX5_game_78 : decode cX5_game 78 = .ok (.istore 7, 2) := by decide +kernel
theorem dX5_game_80 : decode cX5_game 80 = .ok (.iload 7, 2) := by decide +kernel
theorem dX5_game_82 : decode cX5_game 82 = .ok (.bipush 6, 2) := by decide +kernel
theorem dX5_game_84 : decode cX5_game 84 = .ok (.if_icmp .ge 83, 3) := by decide +kernel
theorem dX5_game_87 : decode cX5_game 87 = .ok (.iload 5, 2) := by decide +kernel
theorem dX5_game_89 : decode cX5_game 89 = .ok (.ifCond .eq 78, 3) := by decide +kernel
theorem dX5_game_92 : decode cX5_game 92 = .ok (.iload_n 1, 1) := by decide +kernel
theorem dX5_game_93 : decode cX5_game 93 = .ok (.iload_n 2, 1) := by decide +kernel
theorem dX5_game_94 : decode cX5_game 94 = .ok (.iload 4, 2) := by decide +kernel
theorem dX5_game_96 : decode cX5_game 96 = .ok (.iload 7, 2) := by decide +kernel
theorem dX5_game_98 : decode cX5_game 98 = .ok (.invokestatic 168, 3) := by decide +kernel
theorem dX5_game_101 : decode cX5_game 101 = .ok (.istore 8, 2) := by decide +kernel
theorem dX5_game_103 : decode cX5_game 103 = .ok (.iload_n 2, 1) := by decide +kernel
theorem dX5_game_104 : decode cX5_game 104 = .ok (.iload 7, 2) := by decide +kernel
theorem dX5_game_106 : decode cX5_game 106 = .ok (.ishr, 1) := by decide +kernel
theorem dX5_game_107 : decode cX5_game 107 = .ok (.iconst 1, 1) := by decide +kernel
theorem dX5_game_108 : decode cX5_game 108 = .ok (.iand, 1) := by decide +kernel
theorem dX5_game_109 : decode cX5_game 109 = .ok (.iconst 1, 1) := by decide +kernel
theorem dX5_game_110 : decode cX5_game 110 = .ok (.if_icmp .ne 32, 3) := by decide +kernel
theorem dX5_game_113 : decode cX5_game 113 = .ok (.iload 6, 2) := by decide +kernel
theorem dX5_game_115 : decode cX5_game 115 = .ok (.ifCond .ne 13, 3) := by decide +kernel
theorem dX5_game_118 : decode cX5_game 118 = .ok (.aload_n 0, 1) := by decide +kernel
theorem dX5_game_119 : decode cX5_game 119 = .ok (.getfield 41, 3) := by decide +kernel
theorem dX5_game_122 : decode cX5_game 122 = .ok (.iload 8, 2) := by decide +kernel
theorem dX5_game_124 : decode cX5_game 124 = .ok (.iaload, 1) := by decide +kernel
theorem dX5_game_125 : decode cX5_game 125 = .ok (.goto 10, 3) := by decide +kernel
theorem dX5_game_128 : decode cX5_game 128 = .ok (.aload_n 0, 1) := by decide +kernel
theorem dX5_game_129 : decode cX5_game 129 = .ok (.getfield 38, 3) := by decide +kernel
theorem dX5_game_132 : decode cX5_game 132 = .ok (.iload 8, 2) := by decide +kernel
theorem dX5_game_134 : decode cX5_game 134 = .ok (.iaload, 1) := by decide +kernel
theorem dX5_game_135 : decode cX5_game 135 = .ok (.ifCond .ne 7, 3) := by decide +kernel
theorem dX5_game_138 : decode cX5_game 138 = .ok (.iconst 1, 1) := by decide +kernel
theorem dX5_game_139 : decode cX5_game 139 = .ok (.goto 4, 3) := by decide +kernel
theorem dX5_game_142 : decode cX5_game 142 = .ok (.iconst 0, 1) := by decide +kernel
theorem dX5_game_143 : decode cX5_game 143 = .ok (.istore 9, 2) := by decide +kernel
theorem dX5_game_145 : decode cX5_game 145 = .ok (.iload_n 3, 1) := by decide +kernel
theorem dX5_game_146 : decode cX5_game 146 = .ok (.iload 9, 2) := by decide +kernel
theorem dX5_game_148 : decode cX5_game 148 = .ok (.ifCond .eq 10, 3) := by decide +kernel
theorem dX5_game_151 : decode cX5_game 151 = .ok (.iconst 1, 1) := by decide +kernel
theorem dX5_game_152 : decode cX5_game 152 = .ok (.iload 6, 2) := by decide +kernel
theorem dX5_game_154 : decode cX5_game 154 = .ok (.ishl, 1) := by decide +kernel
theorem dX5_game_155 : decode cX5_game 155 = .ok (.goto 4, 3) := by decide +kernel
theorem dX5_game_158 : decode cX5_game 158 = .ok (.iconst 0, 1) := by decide +kernel
theorem dX5_game_159 : decode cX5_game 159 = .ok (.ior, 1) := by decide +kernel
theorem dX5_game_160 : decode cX5_game 160 = .ok (.istore_n 3, 1) := by decide +kernel
theorem dX5_game_161 : decode cX5_game 161 = .ok (.iinc 7 1, 3) := by decide +kernel
theorem dX5_game_164 : decode cX5_game 164 = .ok (.goto (-84), 3) := by decide +kernel
theorem dX5_game_167 : decode cX5_game 167 = .ok (.iinc 4 1, 3) := by decide +kernel
theorem dX5_game_170 : decode cX5_game 170 = .ok (.goto (-141), 3) := by decide +kernel
theorem dX5_game_173 : decode cX5_game 173 = .ok (.aload_n 0, 1) := by decide +kernel
theorem dX5_game_174 : decode cX5_game 174 = .ok (.getfield 38, 3) := by decide +kernel
theorem dX5_game_177 : decode cX5_game 177 = .ok (.iload_n 1, 1) := by decide +kernel
theorem dX5_game_178 : decode cX5_game 178 = .ok (.iload_n 2, 1) := by decide +kernel
theorem dX5_game_179 : decode cX5_game 179 = .ok (.invokestatic 162, 3) := by decide +kernel
theorem dX5_game_182 : decode cX5_game 182 = .ok (.iload_n 3, 1) := by decide +kernel
theorem dX5_game_183 : decode cX5_game 183 = .ok (.iconst 1, 1) := by decide +kernel
theorem dX5_game_184 : decode cX5_game 184 = .ok (.iand, 1) := by decide +kernel
theorem dX5_game_185 : decode cX5_game 185 = .ok (.iastore, 1) := by decide +kernel
theorem dX5_game_186 : decode cX5_game 186 = .ok (.aload_n 0, 1) := by decide +kernel
theorem dX5_game_187 : decode cX5_game 187 = .ok (.getfield 41, 3) := by decide +kernel
theorem dX5_game_190 : decode cX5_game 190 = .ok (.iload_n 1, 1) := by decide +kernel
theorem dX5_game_191 : decode cX5_game 191 = .ok (.iload_n 2, 1) := by decide +kernel
theorem dX5_game_192 : decode cX5_game 192 = .ok (.invokestatic 162, 3) := by decide +kernel
theorem dX5_game_195 : decode cX5_game 195 = .ok (.iload_n 3, 1) := by decide +kernel
theorem dX5_game_196 : decode cX5_game 196 = .ok (.iconst 1, 1) := by decide +kernel
theorem dX5_game_197 : decode cX5_game 197 = .ok (.ishr, 1) := by decide +kernel
theorem dX5_game_198 : decode cX5_game 198 = .ok (.iastore, 1) := by decide +kernel
theorem dX5_game_199 : decode cX5_game 199 = .ok (.iinc 2 1, 3) := by decide +kernel
theorem dX5_game_202 : decode cX5_game 202 = .ok (.goto (-186), 3) := by decide +kernel
theorem dX5_game_205 : decode cX5_game 205 = .ok (.iinc 1 (-1), 3) := by decide +kernel
theorem dX5_game_208 : decode cX5_game 208 = .ok (.goto (-198), 3) := by decide +kernel
theorem dX5_game_211 : decode cX5_game 211 = .ok (.aload_n 0, 1) := by decide +kernel
theorem dX5_game_212 : decode cX5_game 212 = .ok (.getfield 38, 3) := by decide +kernel
theorem dX5_game_215 : decode cX5_game 215 = .ok (.aload_n 0, 1) := by decide +kernel
theorem dX5_game_216 : decode cX5_game 216 = .ok (.invokevirtual 159, 3) := by decide +kernel
theorem dX5_game_219 : decode cX5_game 219 = .ok (.aload_n 0, 1) := by decide +kernel
theorem dX5_game_220 : decode cX5_game 220 = .ok (.invokevirtual 150, 3) := by decide +kernel
theorem dX5_game_223 : decode cX5_game 223 = .ok (.invokestatic 162, 3) := by decide +kernel
theorem dX5_game_226 : decode cX5_game 226 = .ok (.iaload, 1) := by decide +kernel
theorem dX5_game_227 : decode cX5_game 227 = .ok (.iconst 1, 1) := by decide +kernel
theorem dX5_game_228 : decode cX5_game 228 = .ok (.if_icmp .ne 7, 3) := by decide +kernel
theorem dX5_game_231 : decode cX5_game 231 = .ok (.iconst 0, 1) := by decide +kernel
theorem dX5_game_232 : decode cX5_game 232 = .ok (.goto 4, 3) := by decide +kernel
theorem dX5_game_235 : decode cX5_game 235 = .ok (.iconst 1, 1) := by decide +kernel
theorem dX5_game_236 : decode cX5_game 236 = .ok (.ireturn, 1) := by decide +kernel
theorem dX5_worth_0 : decode cX5_worth 0 = .ok (.aload_n 0, 1) := by decide +kernel
theorem dX5_worth_1 : decode cX5_worth 1 = .ok (.iload_n 1, 1) := by decide +kernel
theorem dX5_worth_2 : decode cX5_worth 2 = .ok (.invokevirtual 143, 3) := by decide +kernel
theorem dX5_worth_5 : decode cX5_worth 5 = .ok (.ifCond .eq 21, 3) := by decide +kernel
theorem dX5_worth_8 : decode cX5_worth 8 = .ok (.aload_n 0, 1) := by decide +kernel
theorem dX5_worth_9 : decode cX5_worth 9 = .ok (.iload_n 1, 1) := by decide +kernel
theorem dX5_worth_10 : decode cX5_worth 10 = .ok (.invokevirtual 181, 3) := by decide +kernel
theorem dX5_worth_13 : decode cX5_worth 13 = .ok (.ifCond .ne 13, 3) := by decide +kernel
theorem dX5_worth_16 : decode cX5_worth 16 = .ok (.iload_n 2, 1) := by decide +kernel
theorem dX5_worth_17 : decode cX5_worth 17 = .ok (.iconst 0, 1) := by decide +kernel
theorem dX5_worth_18 : decode cX5_worth 18 = .ok (.bipush 9, 2) := by decide +kernel
theorem dX5_worth_20 : decode cX5_worth 20 = .ok (.invokestatic 48, 3) := by decide +kernel
theorem dX5_worth_23 : decode cX5_worth 23 = .ok (.ifCond .ne 5, 3) := by decide +kernel
theorem dX5_worth_26 : decode cX5_worth 26 = .ok (.iconst (-1), 1) := by decide +kernel
theorem dX5_worth_27 : decode cX5_worth 27 = .ok (.ireturn, 1) := by decide +kernel
theorem dX5_worth_28 : decode cX5_worth 28 = .ok (.aload_n 0, 1) := by decide +kernel
theorem dX5_worth_29 : decode cX5_worth 29 = .ok (.aload_n 0, 1) := by decide +kernel
theorem dX5_worth_30 : decode cX5_worth 30 = .ok (.iload_n 1, 1) := by decide +kernel
theorem dX5_worth_31 : decode cX5_worth 31 = .ok (.iload_n 2, 1) := by decide +kernel
theorem dX5_worth_32 : decode cX5_worth 32 = .ok (.invokevirtual 131, 3) := by decide +kernel
theorem dX5_worth_35 : decode cX5_worth 35 = .ok (.invokevirtual 172, 3) := by decide +kernel
theorem dX5_worth_38 : decode cX5_worth 38 = .ok (.aload_n 0, 1) := by decide +kernel
theorem dX5_worth_39 : decode cX5_worth 39 = .ok (.invokevirtual 159, 3) := by decide +kernel
theorem dX5_worth_42 : decode cX5_worth 42 = .ok (.aload_n 0, 1) := by decide +kernel
theorem dX5_worth_43 : decode cX5_worth 43 = .ok (.invokevirtual 150, 3) := by decide +kernel
theorem dX5_worth_46 : decode cX5_worth 46 = .ok (.invokestatic 162, 3) := by decide +kernel
theorem dX5_worth_49 : decode cX5_worth 49 = .ok (.istore_n 3, 1) := by decide +kernel
theorem dX5_worth_50 : decode cX5_worth 50 = .ok (.aload_n 0, 1) := by decide +kernel
theorem dX5_worth_51 : decode cX5_worth 51 = .ok (.getfield 38, 3) := by decide +kernel
theorem dX5_worth_54 : decode cX5_worth 54 = .ok (.iload_n 3, 1) := by decide +kernel
theorem dX5_worth_55 : decode cX5_worth 55 = .ok (.bipush 64, 2) := by decide +kernel
theorem dX5_worth_57 : decode cX5_worth 57 = .ok (.iadd, 1) := by decide +kernel
theorem dX5_worth_58 : decode cX5_worth 58 = .ok (.iaload, 1) := by decide +kernel
theorem dX5_worth_59 : decode cX5_worth 59 = .ok (.aload_n 0, 1) := by decide +kernel
theorem dX5_worth_60 : decode cX5_worth 60 = .ok (.getfield 38, 3) := by decide +kernel
theorem dX5_worth_63 : decode cX5_worth 63 = .ok (.iload_n 3, 1) := by decide +kernel
theorem dX5_worth_64 : decode cX5_worth 64 = .ok (.iaload, 1) := by decide +kernel
theorem dX5_worth_65 : decode cX5_worth 65 = .ok (.isub, 1) := by decide +kernel
theorem dX5_worth_66 : decode cX5_worth 66 = .ok (.ireturn, 1) := by decide +kernel
theorem dX5_saw_0 : decode cX5_saw 0 = .ok (.iload_n 1, 1) := by decide +kernel
theorem dX5_saw_1 : decode cX5_saw 1 = .ok (.iconst 0, 1) := by decide +kernel
theorem dX5_saw_2 : decode cX5_saw 2 = .ok (.bipush 6, 2) := by decide +kernel
theorem dX5_saw_4 : decode cX5_saw 4 = .ok (.invokestatic 48, 3) := by decide +kernel
theorem dX5_saw_7 : decode cX5_saw 7 = .ok (.ifCond .eq 28, 3) := by decide +kernel
theorem dX5_saw_10 : decode cX5_saw 10 = .ok (.aload_n 0, 1) := by decide +kernel
theorem dX5_saw_11 : decode cX5_saw 11 = .ok (.iload_n 2, 1) := by decide +kernel
theorem dX5_saw_12 : decode cX5_saw 12 = .ok (.invokevirtual 143, 3) := by decide +kernel
theorem dX5_saw_15 : decode cX5_saw 15 = .ok (.ifCond .eq 20, 3) := by decide +kernel
theorem dX5_saw_18 : decode cX5_saw 18 = .ok (.aload_n 0, 1) := by decide +kernel
theorem dX5_saw_19 : decode cX5_saw 19 = .ok (.iload_n 2, 1) := by decide +kernel
theorem dX5_saw_20 : decode cX5_saw 20 = .ok (.invokevirtual 181, 3) := by decide +kernel
theorem dX5_saw_23 : decode cX5_saw 23 = .ok (.ifCond .ne 12, 3) := by decide +kernel
theorem dX5_saw_26 : decode cX5_saw 26 = .ok (.iload_n 3, 1) := by decide +kernel
theorem dX5_saw_27 : decode cX5_saw 27 = .ok (.iconst 0, 1) := by decide +kernel
theorem dX5_saw_28 : decode cX5_saw 28 = .ok (.iconst 1, 1) := by decide +kernel
theorem dX5_saw_29 : decode cX5_saw 29 = .ok (.invokestatic 48, 3) := by decide +kernel
theorem dX5_saw_32 : decode cX5_saw 32 = .ok (.ifCond .ne 5, 3) := by decide +kernel
theorem dX5_saw_35 : decode cX5_saw 35 = .ok (.iconst (-1), 1) := by decide +kernel
theorem dX5_saw_36 : decode cX5_saw 36 = .ok (.ireturn, 1) := by decide +kernel
theorem dX5_saw_37 : decode cX5_saw 37 = .ok (.aload_n 0, 1) := by decide +kernel
theorem dX5_saw_38 : decode cX5_saw 38 = .ok (.getfield 19, 3) := by decide +kernel
theorem dX5_saw_41 : decode cX5_saw 41 = .ok (.bipush 13, 2) := by decide +kernel
theorem dX5_saw_43 : decode cX5_saw 43 = .ok (.iaload, 1) := by decide +kernel
theorem dX5_saw_44 : decode cX5_saw 44 = .ok (.bipush 8, 2) := by decide +kernel
theorem dX5_saw_46 : decode cX5_saw 46 = .ok (.if_icmp .ne 6, 3) := by decide +kernel
theorem dX5_saw_49 : decode cX5_saw 49 = .ok (.bipush (-3), 2) := by decide +kernel
theorem dX5_saw_51 : decode cX5_saw 51 = .ok (.ireturn, 1) := by decide +kernel
theorem dX5_saw_52 : decode cX5_saw 52 = .ok (.aload_n 0, 1) := by decide +kernel
theorem dX5_saw_53 : decode cX5_saw 53 = .ok (.getfield 19, 3) := by decide +kernel
theorem dX5_saw_56 : decode cX5_saw 56 = .ok (.bipush 13, 2) := by decide +kernel
theorem dX5_saw_58 : decode cX5_saw 58 = .ok (.iaload, 1) := by decide +kernel
theorem dX5_saw_59 : decode cX5_saw 59 = .ok (.istore 4, 2) := by decide +kernel
theorem dX5_saw_61 : decode cX5_saw 61 = .ok (.aload_n 0, 1) := by decide +kernel
theorem dX5_saw_62 : decode cX5_saw 62 = .ok (.getfield 19, 3) := by decide +kernel
theorem dX5_saw_65 : decode cX5_saw 65 = .ok (.bipush 14, 2) := by decide +kernel
theorem dX5_saw_67 : decode cX5_saw 67 = .ok (.iload 4, 2) := by decide +kernel
theorem dX5_saw_69 : decode cX5_saw 69 = .ok (.iadd, 1) := by decide +kernel
theorem dX5_saw_70 : decode cX5_saw 70 = .ok (.iload_n 1, 1) := by decide +kernel
theorem dX5_saw_71 : decode cX5_saw 71 = .ok (.iastore, 1) := by decide +kernel
theorem dX5_saw_72 : decode cX5_saw 72 = .ok (.aload_n 0, 1) := by decide +kernel
theorem dX5_saw_73 : decode cX5_saw 73 = .ok (.getfield 19, 3) := by decide +kernel
theorem dX5_saw_76 : decode cX5_saw 76 = .ok (.bipush 22, 2) := by decide +kernel
theorem dX5_saw_78 : decode cX5_saw 78 = .ok (.iload 4, 2) := by decide +kernel
theorem dX5_saw_80 : decode cX5_saw 80 = .ok (.iadd, 1) := by decide +kernel
theorem dX5_saw_81 : decode cX5_saw 81 = .ok (.iload_n 2, 1) := by decide +kernel
theorem dX5_saw_82 : decode cX5_saw 82 = .ok (.iastore, 1) := by decide +kernel
theorem dX5_saw_83 : decode cX5_saw 83 = .ok (.aload_n 0, 1) := by decide +kernel
theorem dX5_saw_84 : decode cX5_saw 84 = .ok (.getfield 19, 3) := by decide +kernel
theorem dX5_saw_87 : decode cX5_saw 87 = .ok (.bipush 30, 2) := by decide +kernel
theorem dX5_saw_89 : decode cX5_saw 89 = .ok (.iload 4, 2) := by decide +kernel
theorem dX5_saw_91 : decode cX5_saw 91 = .ok (.iadd, 1) := by decide +kernel
theorem dX5_saw_92 : decode cX5_saw 92 = .ok (.iload_n 3, 1) := by decide +kernel
theorem dX5_saw_93 : decode cX5_saw 93 = .ok (.iastore, 1) := by decide +kernel
theorem dX5_saw_94 : decode cX5_saw 94 = .ok (.aload_n 0, 1) := by decide +kernel
theorem dX5_saw_95 : decode cX5_saw 95 = .ok (.getfield 19, 3) := by decide +kernel
theorem dX5_saw_98 : decode cX5_saw 98 = .ok (.bipush 13, 2) := by decide +kernel
theorem dX5_saw_100 : decode cX5_saw 100 = .ok (.dup2, 1) := by decide +kernel
theorem dX5_saw_101 : decode cX5_saw 101 = .ok (.iaload, 1) := by decide +kernel
theorem dX5_saw_102 : decode cX5_saw 102 = .ok (.iconst 1, 1) := by decide +kernel
theorem dX5_saw_103 : decode cX5_saw 103 = .ok (.iadd, 1) := by decide +kernel
theorem dX5_saw_104 : decode cX5_saw 104 = .ok (.iastore, 1) := by decide +kernel
theorem dX5_saw_105 : decode cX5_saw 105 = .ok (.aload_n 0, 1) := by decide +kernel
theorem dX5_saw_106 : decode cX5_saw 106 = .ok (.getfield 19, 3) := by decide +kernel
theorem dX5_saw_109 : decode cX5_saw 109 = .ok (.bipush 13, 2) := by decide +kernel
theorem dX5_saw_111 : decode cX5_saw 111 = .ok (.iaload, 1) := by decide +kernel
theorem dX5_saw_112 : decode cX5_saw 112 = .ok (.ireturn, 1) := by decide +kernel
theorem dX5_forget_0 : decode cX5_forget 0 = .ok (.aload_n 0, 1) := by decide +kernel
theorem dX5_forget_1 : decode cX5_forget 1 = .ok (.getfield 19, 3) := by decide +kernel
theorem dX5_forget_4 : decode cX5_forget 4 = .ok (.bipush 13, 2) := by decide +kernel
theorem dX5_forget_6 : decode cX5_forget 6 = .ok (.iaload, 1) := by decide +kernel
theorem dX5_forget_7 : decode cX5_forget 7 = .ok (.istore_n 1, 1) := by decide +kernel
theorem dX5_forget_8 : decode cX5_forget 8 = .ok (.aload_n 0, 1) := by decide +kernel
theorem dX5_forget_9 : decode cX5_forget 9 = .ok (.getfield 19, 3) := by decide +kernel
theorem dX5_forget_12 : decode cX5_forget 12 = .ok (.bipush 13, 2) := by decide +kernel
theorem dX5_forget_14 : decode cX5_forget 14 = .ok (.iconst 0, 1) := by decide +kernel
theorem dX5_forget_15 : decode cX5_forget 15 = .ok (.iastore, 1) := by decide +kernel
theorem dX5_forget_16 : decode cX5_forget 16 = .ok (.iload_n 1, 1) := by decide +kernel
theorem dX5_forget_17 : decode cX5_forget 17 = .ok (.ireturn, 1) := by decide +kernel
theorem dX5_fitsSeen_0 : decode cX5_fitsSeen 0 = .ok (.iconst 1, 1) := by decide +kernel
theorem dX5_fitsSeen_1 : decode cX5_fitsSeen 1 = .ok (.istore_n 3, 1) := by decide +kernel
theorem dX5_fitsSeen_2 : decode cX5_fitsSeen 2 = .ok (.iconst 0, 1) := by decide +kernel
theorem dX5_fitsSeen_3 : decode cX5_fitsSeen 3 = .ok (.istore 4, 2) := by decide +kernel
theorem dX5_fitsSeen_5 : decode cX5_fitsSeen 5 = .ok (.iload 4, 2) := by decide +kernel
theorem dX5_fitsSeen_7 : decode cX5_fitsSeen 7 = .ok (.aload_n 0, 1) := by decide +kernel
theorem dX5_fitsSeen_8 : decode cX5_fitsSeen 8 = .ok (.getfield 19, 3) := by decide +kernel
theorem dX5_fitsSeen_11 : decode cX5_fitsSeen 11 = .ok (.bipush 13, 2) := by decide +kernel
theorem dX5_fitsSeen_13 : decode cX5_fitsSeen 13 = .ok (.iaload, 1) := by decide +kernel
theorem dX5_fitsSeen_14 : decode cX5_fitsSeen 14 = .ok (.if_icmp .ge 87, 3) := by decide +kernel
theorem dX5_fitsSeen_17 : decode cX5_fitsSeen 17 = .ok (.iload_n 3, 1) := by decide +kernel
theorem dX5_fitsSeen_18 : decode cX5_fitsSeen 18 = .ok (.ifCond .eq 75, 3) := by decide +kernel
theorem dX5_fitsSeen_21 : decode cX5_fitsSeen 21 = .ok (.aload_n 0, 1) := by decide +kernel
theorem dX5_fitsSeen_22 : decode cX5_fitsSeen 22 = .ok (.getfield 19, 3) := by decide +kernel
theorem dX5_fitsSeen_25 : decode cX5_fitsSeen 25 = .ok (.bipush 14, 2) := by decide +kernel
theorem dX5_fitsSeen_27 : decode cX5_fitsSeen 27 = .ok (.iload 4, 2) := by decide +kernel
theorem dX5_fitsSeen_29 : decode cX5_fitsSeen 29 = .ok (.iadd, 1) := by decide +kernel
theorem dX5_fitsSeen_30 : decode cX5_fitsSeen 30 = .ok (.iaload, 1) := by decide +kernel
theorem dX5_fitsSeen_31 : decode cX5_fitsSeen 31 = .ok (.iload_n 1, 1) := by decide +kernel
theorem dX5_fitsSeen_32 : decode cX5_fitsSeen 32 = .ok (.invokestatic 175, 3) := by decide +kernel
theorem dX5_fitsSeen_35 : decode cX5_fitsSeen 35 = .ok (.if_icmp .ne 35, 3) := by decide +kernel
theorem dX5_fitsSeen_38 : decode cX5_fitsSeen 38 = .ok (.aload_n 0, 1) := by decide +kernel
theorem dX5_fitsSeen_39 : decode cX5_fitsSeen 39 = .ok (.getfield 29, 3) := by decide +kernel
theorem dX5_fitsSeen_42 : decode cX5_fitsSeen 42 = .ok (.iload_n 2, 1) := by decide +kernel
theorem dX5_fitsSeen_43 : decode cX5_fitsSeen 43 = .ok (.iaload, 1) := by decide +kernel
theorem dX5_fitsSeen_44 : decode cX5_fitsSeen 44 = .ok (.aload_n 0, 1) := by decide +kernel
theorem dX5_fitsSeen_45 : decode cX5_fitsSeen 45 = .ok (.getfield 19, 3) := by decide +kernel
theorem dX5_fitsSeen_48 : decode cX5_fitsSeen 48 = .ok (.bipush 22, 2) := by decide +kernel
theorem dX5_fitsSeen_50 : decode cX5_fitsSeen 50 = .ok (.iload 4, 2) := by decide +kernel
theorem dX5_fitsSeen_52 : decode cX5_fitsSeen 52 = .ok (.iadd, 1) := by decide +kernel
theorem dX5_fitsSeen_53 : decode cX5_fitsSeen 53 = .ok (.iaload, 1) := by decide +kernel
theorem dX5_fitsSeen_54 : decode cX5_fitsSeen 54 = .ok (.ishr, 1) := by decide +kernel
theorem dX5_fitsSeen_55 : decode cX5_fitsSeen 55 = .ok (.iconst 1, 1) := by decide +kernel
theorem dX5_fitsSeen_56 : decode cX5_fitsSeen 56 = .ok (.iand, 1) := by decide +kernel
theorem dX5_fitsSeen_57 : decode cX5_fitsSeen 57 = .ok (.aload_n 0, 1) := by decide +kernel
theorem dX5_fitsSeen_58 : decode cX5_fitsSeen 58 = .ok (.getfield 19, 3) := by decide +kernel
theorem dX5_fitsSeen_61 : decode cX5_fitsSeen 61 = .ok (.bipush 30, 2) := by decide +kernel
theorem dX5_fitsSeen_63 : decode cX5_fitsSeen 63 = .ok (.iload 4, 2) := by decide +kernel
theorem dX5_fitsSeen_65 : decode cX5_fitsSeen 65 = .ok (.iadd, 1) := by decide +kernel
theorem dX5_fitsSeen_66 : decode cX5_fitsSeen 66 = .ok (.iaload, 1) := by decide +kernel
theorem dX5_fitsSeen_67 : decode cX5_fitsSeen 67 = .ok (.if_icmp .ne 26, 3) := by decide +kernel
theorem dX5_fitsSeen_70 : decode cX5_fitsSeen 70 = .ok (.aload_n 0, 1) := by decide +kernel
theorem dX5_fitsSeen_71 : decode cX5_fitsSeen 71 = .ok (.getfield 19, 3) := by decide +kernel
theorem dX5_fitsSeen_74 : decode cX5_fitsSeen 74 = .ok (.bipush 14, 2) := by decide +kernel
theorem dX5_fitsSeen_76 : decode cX5_fitsSeen 76 = .ok (.iload 4, 2) := by decide +kernel
theorem dX5_fitsSeen_78 : decode cX5_fitsSeen 78 = .ok (.iadd, 1) := by decide +kernel
theorem dX5_fitsSeen_79 : decode cX5_fitsSeen 79 = .ok (.iaload, 1) := by decide +kernel
theorem dX5_fitsSeen_80 : decode cX5_fitsSeen 80 = .ok (.aload_n 0, 1) := by decide +kernel
theorem dX5_fitsSeen_81 : decode cX5_fitsSeen 81 = .ok (.getfield 13, 3) := by decide +kernel
theorem dX5_fitsSeen_84 : decode cX5_fitsSeen 84 = .ok (.iconst 4, 1) := by decide +kernel
theorem dX5_fitsSeen_85 : decode cX5_fitsSeen 85 = .ok (.iaload, 1) := by decide +kernel
theorem dX5_fitsSeen_86 : decode cX5_fitsSeen 86 = .ok (.if_icmp .gt 7, 3) := by decide +kernel
theorem dX5_fitsSeen_89 : decode cX5_fitsSeen 89 = .ok (.iconst 1, 1) := by decide +kernel
theorem dX5_fitsSeen_90 : decode cX5_fitsSeen 90 = .ok (.goto 4, 3) := by decide +kernel
theorem dX5_fitsSeen_93 : decode cX5_fitsSeen 93 = .ok (.iconst 0, 1) := by decide +kernel
theorem dX5_fitsSeen_94 : decode cX5_fitsSeen 94 = .ok (.istore_n 3, 1) := by decide +kernel
theorem dX5_fitsSeen_95 : decode cX5_fitsSeen 95 = .ok (.iinc 4 1, 3) := by decide +kernel
theorem dX5_fitsSeen_98 : decode cX5_fitsSeen 98 = .ok (.goto (-93), 3) := by decide +kernel
theorem dX5_fitsSeen_101 : decode cX5_fitsSeen 101 = .ok (.iload_n 3, 1) := by decide +kernel
theorem dX5_fitsSeen_102 : decode cX5_fitsSeen 102 = .ok (.ireturn, 1) := by decide +kernel
theorem dX5_histories_0 : decode cX5_histories 0 = .ok (.aload_n 0, 1) := by decide +kernel
theorem dX5_histories_1 : decode cX5_histories 1 = .ok (.iconst 0, 1) := by decide +kernel
theorem dX5_histories_2 : decode cX5_histories 2 = .ok (.invokevirtual 146, 3) := by decide +kernel
theorem dX5_histories_5 : decode cX5_histories 5 = .ok (.aload_n 0, 1) := by decide +kernel
theorem dX5_histories_6 : decode cX5_histories 6 = .ok (.invokevirtual 165, 3) := by decide +kernel
theorem dX5_histories_9 : decode cX5_histories 9 = .ok (.istore_n 1, 1) := by decide +kernel
theorem dX5_histories_10 : decode cX5_histories 10 = .ok (.iload_n 1, 1) := by decide +kernel
theorem dX5_histories_11 : decode cX5_histories 11 = .ok (.ifCond .lt 160, 3) := by decide +kernel
theorem dX5_histories_14 : decode cX5_histories 14 = .ok (.iconst 0, 1) := by decide +kernel
theorem dX5_histories_15 : decode cX5_histories 15 = .ok (.istore_n 2, 1) := by decide +kernel
theorem dX5_histories_16 : decode cX5_histories 16 = .ok (.iload_n 2, 1) := by decide +kernel
theorem dX5_histories_17 : decode cX5_histories 17 = .ok (.aload_n 0, 1) := by decide +kernel
theorem dX5_histories_18 : decode cX5_histories 18 = .ok (.invokevirtual 128, 3) := by decide +kernel
theorem dX5_histories_21 : decode cX5_histories 21 = .ok (.if_icmp .gt 144, 3) := by decide +kernel
theorem dX5_histories_24 : decode cX5_histories 24 = .ok (.iload_n 1, 1) := by decide +kernel
theorem dX5_histories_25 : decode cX5_histories 25 = .ok (.aload_n 0, 1) := by decide +kernel
theorem dX5_histories_26 : decode cX5_histories 26 = .ok (.invokevirtual 165, 3) := by decide +kernel
theorem dX5_histories_29 : decode cX5_histories 29 = .ok (.if_icmp .ne 7, 3) := by decide +kernel
theorem dX5_histories_32 : decode cX5_histories 32 = .ok (.iconst 1, 1) := by decide +kernel
theorem dX5_histories_33 : decode cX5_histories 33 = .ok (.goto 4, 3) := by decide +kernel
theorem dX5_histories_36 : decode cX5_histories 36 = .ok (.iconst 0, 1) := by decide +kernel
theorem dX5_histories_37 : decode cX5_histories 37 = .ok (.istore_n 3, 1) := by decide +kernel
theorem dX5_histories_38 : decode cX5_histories 38 = .ok (.iconst 0, 1) := by decide +kernel
theorem dX5_histories_39 : decode cX5_histories 39 = .ok (.istore 4, 2) := by decide +kernel
theorem dX5_histories_41 : decode cX5_histories 41 = .ok (.iload 4, 2) := by decide +kernel
theorem dX5_histories_43 : decode cX5_histories 43 = .ok (.aload_n 0, 1) := by decide +kernel
theorem dX5_histories_44 : decode cX5_histories 44 = .ok (.getfield 13, 3) := by decide +kernel
theorem dX5_histories_47 : decode cX5_histories 47 = .ok (.iconst 4, 1) := by decide +kernel
theorem dX5_histories_48 : decode cX5_histories 48 = .ok (.iaload, 1) := by decide +kernel
theorem dX5_histories_49 : decode cX5_histories 49 = .ok (.if_icmp .ge 86, 3) := by decide +kernel
theorem dX5_histories_52 : decode cX5_histories 52 = .ok (.aload_n 0, 1) := by decide +kernel
theorem dX5_histories_53 : decode cX5_histories 53 = .ok (.getfield 32, 3) := by decide +kernel
theorem dX5_histories_56 : decode cX5_histories 56 = .ok (.iload_n 2, 1) := by decide +kernel
theorem dX5_histories_57 : decode cX5_histories 57 = .ok (.iaload, 1) := by decide +kernel
theorem dX5_histories_58 : decode cX5_histories 58 = .ok (.iload_n 1, 1) := by decide +kernel
theorem dX5_histories_59 : decode cX5_histories 59 = .ok (.iconst (-1), 1) := by decide +kernel
theorem dX5_histories_60 : decode cX5_histories 60 = .ok (.ixor, 1) := by decide +kernel
theorem dX5_histories_61 : decode cX5_histories 61 = .ok (.iand, 1) := by decide +kernel
theorem dX5_histories_62 : decode cX5_histories 62 = .ok (.iconst 1, 1) := by decide +kernel
theorem dX5_histories_63 : decode cX5_histories 63 = .ok (.iload 4, 2) := by decide +kernel
theorem dX5_histories_65 : decode cX5_histories 65 = .ok (.ishl, 1) := by decide +kernel
theorem dX5_histories_66 : decode cX5_histories 66 = .ok (.iand, 1) := by decide +kernel
theorem dX5_histories_67 : decode cX5_histories 67 = .ok (.ifCond .eq 7, 3) := by decide +kernel
theorem dX5_histories_70 : decode cX5_histories 70 = .ok (.iconst 1, 1) := by decide +kernel
theorem dX5_histories_71 : decode cX5_histories 71 = .ok (.goto 4, 3) := by decide +kernel
theorem dX5_histories_74 : decode cX5_histories 74 = .ok (.iconst 0, 1) := by decide +kernel
theorem dX5_histories_75 : decode cX5_histories 75 = .ok (.istore 5, 2) := by decide +kernel
theorem dX5_histories_77 : decode cX5_histories 77 = .ok (.iconst 0, 1) := by decide +kernel
theorem dX5_histories_78 : decode cX5_histories 78 = .ok (.istore 6, 2) := by decide +kernel
theorem dX5_histories_80 : decode cX5_histories 80 = .ok (.iload 6, 2) := by decide +kernel
theorem dX5_histories_82 : decode cX5_histories 82 = .ok (.bipush 6, 2) := by decide +kernel
theorem dX5_histories_84 : decode cX5_histories 84 = .ok (.if_icmp .ge 45, 3) := by decide +kernel
theorem dX5_histories_87 : decode cX5_histories 87 = .ok (.iload 5, 2) := by decide +kernel
theorem dX5_histories_89 : decode cX5_histories 89 = .ok (.ifCond .eq 40, 3) := by decide +kernel
theorem dX5_histories_92 : decode cX5_histories 92 = .ok (.iload_n 3, 1) := by decide +kernel
theorem dX5_histories_93 : decode cX5_histories 93 = .ok (.iload_n 2, 1) := by decide +kernel
theorem dX5_histories_94 : decode cX5_histories 94 = .ok (.iload 6, 2) := by decide +kernel
theorem dX5_histories_96 : decode cX5_histories 96 = .ok (.ishr, 1) := by decide +kernel
theorem dX5_histories_97 : decode cX5_histories 97 = .ok (.iconst 1, 1) := by decide +kernel
theorem dX5_histories_98 : decode cX5_histories 98 = .ok (.iand, 1) := by decide +kernel
theorem dX5_histories_99 : decode cX5_histories 99 = .ok (.iconst 1, 1) := by decide +kernel
theorem dX5_histories_100 : decode cX5_histories 100 = .ok (.if_icmp .ne 20, 3) := by decide +kernel
theorem dX5_histories_103 : decode cX5_histories 103 = .ok (.aload_n 0, 1) := by decide +kernel
theorem dX5_histories_104 : decode cX5_histories 104 = .ok (.getfield 38, 3) := by decide +kernel
theorem dX5_histories_107 : decode cX5_histories 107 = .ok (.iload_n 1, 1) := by decide +kernel
theorem dX5_histories_108 : decode cX5_histories 108 = .ok (.iload_n 2, 1) := by decide +kernel
theorem dX5_histories_109 : decode cX5_histories 109 = .ok (.iload 4, 2) := by decide +kernel
theorem dX5_histories_111 : decode cX5_histories 111 = .ok (.iload 6, 2) := by decide +kernel
theorem dX5_histories_113 : decode cX5_histories 113 = .ok (.invokestatic 168, 3) := by decide +kernel
theorem dX5_histories_116 : decode cX5_histories 116 = .ok (.iaload, 1) := by decide +kernel
theorem dX5_histories_117 : decode cX5_histories 117 = .ok (.goto 4, 3) := by decide +kernel
theorem dX5_histories_120 : decode cX5_histories 120 = .ok (.iconst 0, 1) := by decide +kernel
theorem dX5_histories_121 : decode cX5_histories 121 = .ok (.iadd, 1) := by decide +kernel
theorem dX5_histories_122 : decode cX5_histories 122 = .ok (.istore_n 3, 1) := by decide +kernel
theorem dX5_histories_123 : decode cX5_histories 123 = .ok (.iinc 6 1, 3) := by decide +kernel
theorem dX5_histories_126 : decode cX5_histories 126 = .ok (.goto (-46), 3) := by decide +kernel
theorem dX5_histories_129 : decode cX5_histories 129 = .ok (.iinc 4 1, 3) := by decide +kernel
theorem dX5_histories_132 : decode cX5_histories 132 = .ok (.goto (-91), 3) := by decide +kernel
theorem dX5_histories_135 : decode cX5_histories 135 = .ok (.aload_n 0, 1) := by decide +kernel
theorem dX5_histories_136 : decode cX5_histories 136 = .ok (.getfield 38, 3) := by decide +kernel
theorem dX5_histories_139 : decode cX5_histories 139 = .ok (.iload_n 1, 1) := by decide +kernel
theorem dX5_histories_140 : decode cX5_histories 140 = .ok (.iload_n 2, 1) := by decide +kernel
theorem dX5_histories_141 : decode cX5_histories 141 = .ok (.invokestatic 162, 3) := by decide +kernel
theorem dX5_histories_144 : decode cX5_histories 144 = .ok (.aload_n 0, 1) := by decide +kernel
theorem dX5_histories_145 : decode cX5_histories 145 = .ok (.iload_n 1, 1) := by decide +kernel
theorem dX5_histories_146 : decode cX5_histories 146 = .ok (.iload_n 2, 1) := by decide +kernel
theorem dX5_histories_147 : decode cX5_histories 147 = .ok (.invokevirtual 184, 3) := by decide +kernel
theorem dX5_histories_150 : decode cX5_histories 150 = .ok (.ifCond .eq 7, 3) := by decide +kernel
theorem dX5_histories_153 : decode cX5_histories 153 = .ok (.iload_n 3, 1) := by decide +kernel
theorem dX5_histories_154 : decode cX5_histories 154 = .ok (.goto 4, 3) := by decide +kernel
theorem dX5_histories_157 : decode cX5_histories 157 = .ok (.iconst 0, 1) := by decide +kernel
theorem dX5_histories_158 : decode cX5_histories 158 = .ok (.iastore, 1) := by decide +kernel
theorem dX5_histories_159 : decode cX5_histories 159 = .ok (.iinc 2 1, 3) := by decide +kernel
theorem dX5_histories_162 : decode cX5_histories 162 = .ok (.goto (-146), 3) := by decide +kernel
theorem dX5_histories_165 : decode cX5_histories 165 = .ok (.iinc 1 (-1), 3) := by decide +kernel
theorem dX5_histories_168 : decode cX5_histories 168 = .ok (.goto (-158), 3) := by decide +kernel
theorem dX5_histories_171 : decode cX5_histories 171 = .ok (.return_, 1) := by decide +kernel
theorem dX5_fits_0 : decode cX5_fits 0 = .ok (.aload_n 0, 1) := by decide +kernel
theorem dX5_fits_1 : decode cX5_fits 1 = .ok (.invokevirtual 188, 3) := by decide +kernel
theorem dX5_fits_4 : decode cX5_fits 4 = .ok (.aload_n 0, 1) := by decide +kernel
theorem dX5_fits_5 : decode cX5_fits 5 = .ok (.getfield 38, 3) := by decide +kernel
theorem dX5_fits_8 : decode cX5_fits 8 = .ok (.iconst 0, 1) := by decide +kernel
theorem dX5_fits_9 : decode cX5_fits 9 = .ok (.aload_n 0, 1) := by decide +kernel
theorem dX5_fits_10 : decode cX5_fits 10 = .ok (.invokevirtual 128, 3) := by decide +kernel
theorem dX5_fits_13 : decode cX5_fits 13 = .ok (.invokestatic 162, 3) := by decide +kernel
theorem dX5_fits_16 : decode cX5_fits 16 = .ok (.iaload, 1) := by decide +kernel
theorem dX5_fits_17 : decode cX5_fits 17 = .ok (.ireturn, 1) := by decide +kernel
theorem dX5_who_0 : decode cX5_who 0 = .ok (.aload_n 0, 1) := by decide +kernel
theorem dX5_who_1 : decode cX5_who 1 = .ok (.iload_n 1, 1) := by decide +kernel
theorem dX5_who_2 : decode cX5_who 2 = .ok (.invokevirtual 153, 3) := by decide +kernel
theorem dX5_who_5 : decode cX5_who 5 = .ok (.ifCond .ne 5, 3) := by decide +kernel
theorem dX5_who_8 : decode cX5_who 8 = .ok (.iconst (-1), 1) := by decide +kernel
theorem dX5_who_9 : decode cX5_who 9 = .ok (.ireturn, 1) := by decide +kernel
theorem dX5_who_10 : decode cX5_who 10 = .ok (.aload_n 0, 1) := by decide +kernel
theorem dX5_who_11 : decode cX5_who 11 = .ok (.invokevirtual 188, 3) := by decide +kernel
theorem dX5_who_14 : decode cX5_who 14 = .ok (.iconst 0, 1) := by decide +kernel
theorem dX5_who_15 : decode cX5_who 15 = .ok (.istore_n 2, 1) := by decide +kernel
theorem dX5_who_16 : decode cX5_who 16 = .ok (.iload_n 2, 1) := by decide +kernel
theorem dX5_who_17 : decode cX5_who 17 = .ok (.aload_n 0, 1) := by decide +kernel
theorem dX5_who_18 : decode cX5_who 18 = .ok (.invokevirtual 165, 3) := by decide +kernel
theorem dX5_who_21 : decode cX5_who 21 = .ok (.if_icmp .gt 36, 3) := by decide +kernel
theorem dX5_who_24 : decode cX5_who 24 = .ok (.iconst 0, 1) := by decide +kernel
theorem dX5_who_25 : decode cX5_who 25 = .ok (.istore_n 3, 1) := by decide +kernel
theorem dX5_who_26 : decode cX5_who 26 = .ok (.iload_n 3, 1) := by decide +kernel
theorem dX5_who_27 : decode cX5_who 27 = .ok (.aload_n 0, 1) := by decide +kernel
theorem dX5_who_28 : decode cX5_who 28 = .ok (.invokevirtual 128, 3) := by decide +kernel
theorem dX5_who_31 : decode cX5_who 31 = .ok (.if_icmp .gt 20, 3) := by decide +kernel
theorem dX5_who_34 : decode cX5_who 34 = .ok (.aload_n 0, 1) := by decide +kernel
theorem dX5_who_35 : decode cX5_who 35 = .ok (.getfield 41, 3) := by decide +kernel
theorem dX5_who_38 : decode cX5_who 38 = .ok (.iload_n 2, 1) := by decide +kernel
theorem dX5_who_39 : decode cX5_who 39 = .ok (.iload_n 3, 1) := by decide +kernel
theorem dX5_who_40 : decode cX5_who 40 = .ok (.invokestatic 162, 3) := by decide +kernel
theorem dX5_who_43 : decode cX5_who 43 = .ok (.iconst 0, 1) := by decide +kernel
theorem dX5_who_44 : decode cX5_who 44 = .ok (.iastore, 1) := by decide +kernel
theorem dX5_who_45 : decode cX5_who 45 = .ok (.iinc 3 1, 3) := by decide +kernel
theorem dX5_who_48 : decode cX5_who 48 = .ok (.goto (-22), 3) := by decide +kernel
theorem dX5_who_51 : decode cX5_who 51 = .ok (.iinc 2 1, 3) := by decide +kernel
theorem dX5_who_54 : decode cX5_who 54 = .ok (.goto (-38), 3) := by decide +kernel
theorem dX5_who_57 : decode cX5_who 57 = .ok (.aload_n 0, 1) := by decide +kernel
theorem dX5_who_58 : decode cX5_who 58 = .ok (.getfield 41, 3) := by decide +kernel
theorem dX5_who_61 : decode cX5_who 61 = .ok (.iconst 0, 1) := by decide +kernel
theorem dX5_who_62 : decode cX5_who 62 = .ok (.aload_n 0, 1) := by decide +kernel
theorem dX5_who_63 : decode cX5_who 63 = .ok (.invokevirtual 128, 3) := by decide +kernel
theorem dX5_who_66 : decode cX5_who 66 = .ok (.invokestatic 162, 3) := by decide +kernel
theorem dX5_who_69 : decode cX5_who 69 = .ok (.aload_n 0, 1) := by decide +kernel
theorem dX5_who_70 : decode cX5_who 70 = .ok (.getfield 38, 3) := by decide +kernel
theorem dX5_who_73 : decode cX5_who 73 = .ok (.iconst 0, 1) := by decide +kernel
theorem dX5_who_74 : decode cX5_who 74 = .ok (.aload_n 0, 1) := by decide +kernel
theorem dX5_who_75 : decode cX5_who 75 = .ok (.invokevirtual 128, 3) := by decide +kernel
theorem dX5_who_78 : decode cX5_who 78 = .ok (.invokestatic 162, 3) := by decide +kernel
theorem dX5_who_81 : decode cX5_who 81 = .ok (.iaload, 1) := by decide +kernel
theorem dX5_who_82 : decode cX5_who 82 = .ok (.ifCond .le 7, 3) := by decide +kernel
theorem dX5_who_85 : decode cX5_who 85 = .ok (.iconst 1, 1) := by decide +kernel
theorem dX5_who_86 : decode cX5_who 86 = .ok (.goto 4, 3) := by decide +kernel
theorem dX5_who_89 : decode cX5_who 89 = .ok (.iconst 0, 1) := by decide +kernel
theorem dX5_who_90 : decode cX5_who 90 = .ok (.iastore, 1) := by decide +kernel
theorem dX5_who_91 : decode cX5_who 91 = .ok (.iconst 0, 1) := by decide +kernel
theorem dX5_who_92 : decode cX5_who 92 = .ok (.istore_n 2, 1) := by decide +kernel
theorem dX5_who_93 : decode cX5_who 93 = .ok (.iconst 0, 1) := by decide +kernel
theorem dX5_who_94 : decode cX5_who 94 = .ok (.istore_n 3, 1) := by decide +kernel
theorem dX5_who_95 : decode cX5_who 95 = .ok (.iload_n 3, 1) := by decide +kernel
theorem dX5_who_96 : decode cX5_who 96 = .ok (.aload_n 0, 1) := by decide +kernel
theorem dX5_who_97 : decode cX5_who 97 = .ok (.invokevirtual 165, 3) := by decide +kernel
theorem dX5_who_100 : decode cX5_who 100 = .ok (.if_icmp .gt 193, 3) := by decide +kernel
theorem dX5_who_103 : decode cX5_who 103 = .ok (.aload_n 0, 1) := by decide +kernel
theorem dX5_who_104 : decode cX5_who 104 = .ok (.invokevirtual 128, 3) := by decide +kernel
theorem dX5_who_107 : decode cX5_who 107 = .ok (.istore 4, 2) := by decide +kernel
theorem dX5_who_109 : decode cX5_who 109 = .ok (.iload 4, 2) := by decide +kernel
theorem dX5_who_111 : decode cX5_who 111 = .ok (.ifCond .lt 176, 3) := by decide +kernel
theorem dX5_who_114 : decode cX5_who 114 = .ok (.iconst 0, 1) := by decide +kernel
theorem dX5_who_115 : decode cX5_who 115 = .ok (.istore 5, 2) := by decide +kernel
theorem dX5_who_117 : decode cX5_who 117 = .ok (.iload 5, 2) := by decide +kernel
theorem dX5_who_119 : decode cX5_who 119 = .ok (.aload_n 0, 1) := by decide +kernel
theorem dX5_who_120 : decode cX5_who 120 = .ok (.getfield 13, 3) := by decide +kernel
theorem dX5_who_123 : decode cX5_who 123 = .ok (.iconst 4, 1) := by decide +kernel
theorem dX5_who_124 : decode cX5_who 124 = .ok (.iaload, 1) := by decide +kernel
theorem dX5_who_125 : decode cX5_who 125 = .ok (.if_icmp .ge 156, 3) := by decide +kernel
theorem dX5_who_128 : decode cX5_who 128 = .ok (.aload_n 0, 1) := by decide +kernel
theorem dX5_who_129 : decode cX5_who 129 = .ok (.getfield 41, 3) := by decide +kernel
theorem dX5_who_132 : decode cX5_who 132 = .ok (.iload_n 3, 1) := by decide +kernel
theorem dX5_who_133 : decode cX5_who 133 = .ok (.iload 4, 2) := by decide +kernel
theorem dX5_who_135 : decode cX5_who 135 = .ok (.invokestatic 162, 3) := by decide +kernel
theorem dX5_who_138 : decode cX5_who 138 = .ok (.iaload, 1) := by decide +kernel
theorem dX5_who_139 : decode cX5_who 139 = .ok (.iconst 1, 1) := by decide +kernel
theorem dX5_who_140 : decode cX5_who 140 = .ok (.if_icmp .ne 141, 3) := by decide +kernel
theorem dX5_who_143 : decode cX5_who 143 = .ok (.aload_n 0, 1) := by decide +kernel
theorem dX5_who_144 : decode cX5_who 144 = .ok (.getfield 32, 3) := by decide +kernel
theorem dX5_who_147 : decode cX5_who 147 = .ok (.iload 4, 2) := by decide +kernel
theorem dX5_who_149 : decode cX5_who 149 = .ok (.iaload, 1) := by decide +kernel
theorem dX5_who_150 : decode cX5_who 150 = .ok (.iload_n 3, 1) := by decide +kernel
theorem dX5_who_151 : decode cX5_who 151 = .ok (.iconst (-1), 1) := by decide +kernel
theorem dX5_who_152 : decode cX5_who 152 = .ok (.ixor, 1) := by decide +kernel
theorem dX5_who_153 : decode cX5_who 153 = .ok (.iand, 1) := by decide +kernel
theorem dX5_who_154 : decode cX5_who 154 = .ok (.iconst 1, 1) := by decide +kernel
theorem dX5_who_155 : decode cX5_who 155 = .ok (.iload 5, 2) := by decide +kernel
theorem dX5_who_157 : decode cX5_who 157 = .ok (.ishl, 1) := by decide +kernel
theorem dX5_who_158 : decode cX5_who 158 = .ok (.iand, 1) := by decide +kernel
theorem dX5_who_159 : decode cX5_who 159 = .ok (.ifCond .eq 7, 3) := by decide +kernel
theorem dX5_who_162 : decode cX5_who 162 = .ok (.iconst 1, 1) := by decide +kernel
theorem dX5_who_163 : decode cX5_who 163 = .ok (.goto 4, 3) := by decide +kernel
theorem dX5_who_166 : decode cX5_who 166 = .ok (.iconst 0, 1) := by decide +kernel
theorem dX5_who_167 : decode cX5_who 167 = .ok (.istore 6, 2) := by decide +kernel
theorem dX5_who_169 : decode cX5_who 169 = .ok (.iconst 0, 1) := by decide +kernel
theorem dX5_who_170 : decode cX5_who 170 = .ok (.istore 7, 2) := by decide +kernel
theorem dX5_who_172 : decode cX5_who 172 = .ok (.iload 7, 2) := by decide +kernel
theorem dX5_who_174 : decode cX5_who 174 = .ok (.bipush 6, 2) := by decide +kernel
theorem dX5_who_176 : decode cX5_who 176 = .ok (.if_icmp .ge 99, 3) := by decide +kernel
theorem dX5_who_179 : decode cX5_who 179 = .ok (.iload 6, 2) := by decide +kernel
theorem dX5_who_181 : decode cX5_who 181 = .ok (.ifCond .eq 94, 3) := by decide +kernel
theorem dX5_who_184 : decode cX5_who 184 = .ok (.iload_n 3, 1) := by decide +kernel
theorem dX5_who_185 : decode cX5_who 185 = .ok (.iload 4, 2) := by decide +kernel
theorem dX5_who_187 : decode cX5_who 187 = .ok (.iload 5, 2) := by decide +kernel
theorem dX5_who_189 : decode cX5_who 189 = .ok (.iload 7, 2) := by decide +kernel
theorem dX5_who_191 : decode cX5_who 191 = .ok (.invokestatic 168, 3) := by decide +kernel
theorem dX5_who_194 : decode cX5_who 194 = .ok (.istore 8, 2) := by decide +kernel
theorem dX5_who_196 : decode cX5_who 196 = .ok (.iload 4, 2) := by decide +kernel
theorem dX5_who_198 : decode cX5_who 198 = .ok (.iload 7, 2) := by decide +kernel
theorem dX5_who_200 : decode cX5_who 200 = .ok (.ishr, 1) := by decide +kernel
theorem dX5_who_201 : decode cX5_who 201 = .ok (.iconst 1, 1) := by decide +kernel
theorem dX5_who_202 : decode cX5_who 202 = .ok (.iand, 1) := by decide +kernel
theorem dX5_who_203 : decode cX5_who 203 = .ok (.iconst 1, 1) := by decide +kernel
theorem dX5_who_204 : decode cX5_who 204 = .ok (.if_icmp .ne 17, 3) := by decide +kernel
theorem dX5_who_207 : decode cX5_who 207 = .ok (.aload_n 0, 1) := by decide +kernel
theorem dX5_who_208 : decode cX5_who 208 = .ok (.getfield 38, 3) := by decide +kernel
theorem dX5_who_211 : decode cX5_who 211 = .ok (.iload 8, 2) := by decide +kernel
theorem dX5_who_213 : decode cX5_who 213 = .ok (.iaload, 1) := by decide +kernel
theorem dX5_who_214 : decode cX5_who 214 = .ok (.ifCond .le 7, 3) := by decide +kernel
theorem dX5_who_217 : decode cX5_who 217 = .ok (.iconst 1, 1) := by decide +kernel
theorem dX5_who_218 : decode cX5_who 218 = .ok (.goto 4, 3) := by decide +kernel
theorem dX5_who_221 : decode cX5_who 221 = .ok (.iconst 0, 1) := by decide +kernel
theorem dX5_who_222 : decode cX5_who 222 = .ok (.istore 9, 2) := by decide +kernel
theorem dX5_who_224 : decode cX5_who 224 = .ok (.aload_n 0, 1) := by decide +kernel
theorem dX5_who_225 : decode cX5_who 225 = .ok (.getfield 41, 3) := by decide +kernel
theorem dX5_who_228 : decode cX5_who 228 = .ok (.iload 8, 2) := by decide +kernel
theorem dX5_who_230 : decode cX5_who 230 = .ok (.iload 9, 2) := by decide +kernel
theorem dX5_who_232 : decode cX5_who 232 = .ok (.ifCond .eq 7, 3) := by decide +kernel
theorem dX5_who_235 : decode cX5_who 235 = .ok (.iconst 1, 1) := by decide +kernel
theorem dX5_who_236 : decode cX5_who 236 = .ok (.goto 10, 3) := by decide +kernel
theorem dX5_who_239 : decode cX5_who 239 = .ok (.aload_n 0, 1) := by decide +kernel
theorem dX5_who_240 : decode cX5_who 240 = .ok (.getfield 41, 3) := by decide +kernel
theorem dX5_who_243 : decode cX5_who 243 = .ok (.iload 8, 2) := by decide +kernel
theorem dX5_who_245 : decode cX5_who 245 = .ok (.iaload, 1) := by decide +kernel
theorem dX5_who_246 : decode cX5_who 246 = .ok (.iastore, 1) := by decide +kernel
theorem dX5_who_247 : decode cX5_who 247 = .ok (.iload_n 2, 1) := by decide +kernel
theorem dX5_who_248 : decode cX5_who 248 = .ok (.iload 9, 2) := by decide +kernel
theorem dX5_who_250 : decode cX5_who 250 = .ok (.ifCond .eq 16, 3) := by decide +kernel
theorem dX5_who_253 : decode cX5_who 253 = .ok (.iload 7, 2) := by decide +kernel
theorem dX5_who_255 : decode cX5_who 255 = .ok (.iload_n 1, 1) := by decide +kernel
theorem dX5_who_256 : decode cX5_who 256 = .ok (.if_icmp .ne 10, 3) := by decide +kernel
theorem dX5_who_259 : decode cX5_who 259 = .ok (.iconst 1, 1) := by decide +kernel
theorem dX5_who_260 : decode cX5_who 260 = .ok (.iload 5, 2) := by decide +kernel
theorem dX5_who_262 : decode cX5_who 262 = .ok (.ishl, 1) := by decide +kernel
theorem dX5_who_263 : decode cX5_who 263 = .ok (.goto 4, 3) := by decide +kernel
theorem dX5_who_266 : decode cX5_who 266 = .ok (.iconst 0, 1) := by decide +kernel
theorem dX5_who_267 : decode cX5_who 267 = .ok (.ior, 1) := by decide +kernel
theorem dX5_who_268 : decode cX5_who 268 = .ok (.istore_n 2, 1) := by decide +kernel
theorem dX5_who_269 : decode cX5_who 269 = .ok (.iinc 7 1, 3) := by decide +kernel
theorem dX5_who_272 : decode cX5_who 272 = .ok (.goto (-100), 3) := by decide +kernel
theorem dX5_who_275 : decode cX5_who 275 = .ok (.iinc 5 1, 3) := by decide +kernel
theorem dX5_who_278 : decode cX5_who 278 = .ok (.goto (-161), 3) := by decide +kernel
theorem dX5_who_281 : decode cX5_who 281 = .ok (.iinc 4 (-1), 3) := by decide +kernel
theorem dX5_who_284 : decode cX5_who 284 = .ok (.goto (-175), 3) := by decide +kernel
theorem dX5_who_287 : decode cX5_who 287 = .ok (.iinc 3 1, 3) := by decide +kernel
theorem dX5_who_290 : decode cX5_who 290 = .ok (.goto (-195), 3) := by decide +kernel
theorem dX5_who_293 : decode cX5_who 293 = .ok (.iload_n 2, 1) := by decide +kernel
theorem dX5_who_294 : decode cX5_who 294 = .ok (.ireturn, 1) := by decide +kernel
theorem dX5_mark_0 : decode cX5_mark 0 = .ok (.iload_n 1, 1) := by decide +kernel
theorem dX5_mark_1 : decode cX5_mark 1 = .ok (.iconst 0, 1) := by decide +kernel
theorem dX5_mark_2 : decode cX5_mark 2 = .ok (.iconst 5, 1) := by decide +kernel
theorem dX5_mark_3 : decode cX5_mark 3 = .ok (.invokestatic 48, 3) := by decide +kernel
theorem dX5_mark_6 : decode cX5_mark 6 = .ok (.ifCond .eq 11, 3) := by decide +kernel
theorem dX5_mark_9 : decode cX5_mark 9 = .ok (.aload_n 0, 1) := by decide +kernel
theorem dX5_mark_10 : decode cX5_mark 10 = .ok (.iload_n 2, 1) := by decide +kernel
theorem dX5_mark_11 : decode cX5_mark 11 = .ok (.invokevirtual 156, 3) := by decide +kernel
theorem dX5_mark_14 : decode cX5_mark 14 = .ok (.ifCond .ne 6, 3) := by decide +kernel
theorem dX5_mark_17 : decode cX5_mark 17 = .ok (.ldc 191, 2) := by decide +kernel
theorem dX5_mark_19 : decode cX5_mark 19 = .ok (.ireturn, 1) := by decide +kernel
theorem dX5_mark_20 : decode cX5_mark 20 = .ok (.aload_n 0, 1) := by decide +kernel
theorem dX5_mark_21 : decode cX5_mark 21 = .ok (.dup, 1) := by decide +kernel
theorem dX5_mark_22 : decode cX5_mark 22 = .ok (.getfield 192, 3) := by decide +kernel
theorem dX5_mark_25 : decode cX5_mark 25 = .ok (.iload_n 1, 1) := by decide +kernel
theorem dX5_mark_26 : decode cX5_mark 26 = .ok (.ifCond .ne 7, 3) := by decide +kernel
theorem dX5_mark_29 : decode cX5_mark 29 = .ok (.lconst 1, 1) := by decide +kernel
theorem dX5_mark_30 : decode cX5_mark 30 = .ok (.goto 50, 3) := by decide +kernel
theorem dX5_mark_33 : decode cX5_mark 33 = .ok (.iload_n 1, 1) := by decide +kernel
theorem dX5_mark_34 : decode cX5_mark 34 = .ok (.iconst 1, 1) := by decide +kernel
theorem dX5_mark_35 : decode cX5_mark 35 = .ok (.if_icmp .ne 9, 3) := by decide +kernel
theorem dX5_mark_38 : decode cX5_mark 38 = .ok (.ldc2_w 196, 3) := by decide +kernel
theorem dX5_mark_41 : decode cX5_mark 41 = .ok (.goto 39, 3) := by decide +kernel
theorem dX5_mark_44 : decode cX5_mark 44 = .ok (.iload_n 1, 1) := by decide +kernel
theorem dX5_mark_45 : decode cX5_mark 45 = .ok (.iconst 2, 1) := by decide +kernel
theorem dX5_mark_46 : decode cX5_mark 46 = .ok (.if_icmp .ne 9, 3) := by decide +kernel
theorem dX5_mark_49 : decode cX5_mark 49 = .ok (.ldc2_w 198, 3) := by decide +kernel
theorem dX5_mark_52 : decode cX5_mark 52 = .ok (.goto 28, 3) := by decide +kernel
theorem dX5_mark_55 : decode cX5_mark 55 = .ok (.iload_n 1, 1) := by decide +kernel
theorem dX5_mark_56 : decode cX5_mark 56 = .ok (.iconst 3, 1) := by decide +kernel
theorem dX5_mark_57 : decode cX5_mark 57 = .ok (.if_icmp .ne 9, 3) := by decide +kernel
theorem dX5_mark_60 : decode cX5_mark 60 = .ok (.ldc2_w 200, 3) := by decide +kernel
theorem dX5_mark_63 : decode cX5_mark 63 = .ok (.goto 17, 3) := by decide +kernel
theorem dX5_mark_66 : decode cX5_mark 66 = .ok (.iload_n 1, 1) := by decide +kernel
theorem dX5_mark_67 : decode cX5_mark 67 = .ok (.iconst 4, 1) := by decide +kernel
theorem dX5_mark_68 : decode cX5_mark 68 = .ok (.if_icmp .ne 9, 3) := by decide +kernel
theorem dX5_mark_71 : decode cX5_mark 71 = .ok (.ldc2_w 202, 3) := by decide +kernel
theorem dX5_mark_74 : decode cX5_mark 74 = .ok (.goto 6, 3) := by decide +kernel
theorem dX5_mark_77 : decode cX5_mark 77 = .ok (.ldc2_w 204, 3) := by decide +kernel
theorem dX5_mark_80 : decode cX5_mark 80 = .ok (.ladd, 1) := by decide +kernel
theorem dX5_mark_81 : decode cX5_mark 81 = .ok (.putfield 192, 3) := by decide +kernel
theorem dX5_mark_84 : decode cX5_mark 84 = .ok (.aload_n 0, 1) := by decide +kernel
theorem dX5_mark_85 : decode cX5_mark 85 = .ok (.getfield 13, 3) := by decide +kernel
theorem dX5_mark_88 : decode cX5_mark 88 = .ok (.bipush 25, 2) := by decide +kernel
theorem dX5_mark_90 : decode cX5_mark 90 = .ok (.iload_n 2, 1) := by decide +kernel
theorem dX5_mark_91 : decode cX5_mark 91 = .ok (.iadd, 1) := by decide +kernel
theorem dX5_mark_92 : decode cX5_mark 92 = .ok (.iaload, 1) := by decide +kernel
theorem dX5_mark_93 : decode cX5_mark 93 = .ok (.istore_n 3, 1) := by decide +kernel
theorem dX5_mark_94 : decode cX5_mark 94 = .ok (.iload_n 3, 1) := by decide +kernel
theorem dX5_mark_95 : decode cX5_mark 95 = .ok (.aload_n 0, 1) := by decide +kernel
theorem dX5_mark_96 : decode cX5_mark 96 = .ok (.getfield 19, 3) := by decide +kernel
theorem dX5_mark_99 : decode cX5_mark 99 = .ok (.iconst 0, 1) := by decide +kernel
theorem dX5_mark_100 : decode cX5_mark 100 = .ok (.iaload, 1) := by decide +kernel
theorem dX5_mark_101 : decode cX5_mark 101 = .ok (.iadd, 1) := by decide +kernel
theorem dX5_mark_102 : decode cX5_mark 102 = .ok (.istore 4, 2) := by decide +kernel
theorem dX5_mark_104 : decode cX5_mark 104 = .ok (.iload_n 3, 1) := by decide +kernel
theorem dX5_mark_105 : decode cX5_mark 105 = .ok (.aload_n 0, 1) := by decide +kernel
theorem dX5_mark_106 : decode cX5_mark 106 = .ok (.invokevirtual 150, 3) := by decide +kernel
theorem dX5_mark_109 : decode cX5_mark 109 = .ok (.invokestatic 175, 3) := by decide +kernel
theorem dX5_mark_112 : decode cX5_mark 112 = .ok (.iadd, 1) := by decide +kernel
theorem dX5_mark_113 : decode cX5_mark 113 = .ok (.istore 5, 2) := by decide +kernel
theorem dX5_mark_115 : decode cX5_mark 115 = .ok (.iload_n 1, 1) := by decide +kernel
theorem dX5_mark_116 : decode cX5_mark 116 = .ok (.ifCond .ne 7, 3) := by decide +kernel
theorem dX5_mark_119 : decode cX5_mark 119 = .ok (.iload_n 3, 1) := by decide +kernel
theorem dX5_mark_120 : decode cX5_mark 120 = .ok (.goto 66, 3) := by decide +kernel
theorem dX5_mark_123 : decode cX5_mark 123 = .ok (.iload_n 1, 1) := by decide +kernel
theorem dX5_mark_124 : decode cX5_mark 124 = .ok (.iconst 1, 1) := by decide +kernel
theorem dX5_mark_125 : decode cX5_mark 125 = .ok (.if_icmp .ne 8, 3) := by decide +kernel
theorem dX5_mark_128 : decode cX5_mark 128 = .ok (.iload 4, 2) := by decide +kernel
theorem dX5_mark_130 : decode cX5_mark 130 = .ok (.goto 56, 3) := by decide +kernel
theorem dX5_mark_133 : decode cX5_mark 133 = .ok (.iload_n 1, 1) := by decide +kernel
theorem dX5_mark_134 : decode cX5_mark 134 = .ok (.iconst 2, 1) := by decide +kernel
theorem dX5_mark_135 : decode cX5_mark 135 = .ok (.if_icmp .ne 8, 3) := by decide +kernel
theorem dX5_mark_138 : decode cX5_mark 138 = .ok (.iload 5, 2) := by decide +kernel
theorem dX5_mark_140 : decode cX5_mark 140 = .ok (.goto 46, 3) := by decide +kernel
theorem dX5_mark_143 : decode cX5_mark 143 = .ok (.iload_n 1, 1) := by decide +kernel
theorem dX5_mark_144 : decode cX5_mark 144 = .ok (.iconst 3, 1) := by decide +kernel
theorem dX5_mark_145 : decode cX5_mark 145 = .ok (.if_icmp .ne 10, 3) := by decide +kernel
theorem dX5_mark_148 : decode cX5_mark 148 = .ok (.iconst 2, 1) := by decide +kernel
theorem dX5_mark_149 : decode cX5_mark 149 = .ok (.iload 4, 2) := by decide +kernel
theorem dX5_mark_151 : decode cX5_mark 151 = .ok (.imul, 1) := by decide +kernel
theorem dX5_mark_152 : decode cX5_mark 152 = .ok (.goto 34, 3) := by decide +kernel
theorem dX5_mark_155 : decode cX5_mark 155 = .ok (.iload_n 1, 1) := by decide +kernel
theorem dX5_mark_156 : decode cX5_mark 156 = .ok (.iconst 4, 1) := by decide +kernel
theorem dX5_mark_157 : decode cX5_mark 157 = .ok (.if_icmp .ne 18, 3) := by decide +kernel
theorem dX5_mark_160 : decode cX5_mark 160 = .ok (.iload 5, 2) := by decide +kernel
theorem dX5_mark_162 : decode cX5_mark 162 = .ok (.aload_n 0, 1) := by decide +kernel
theorem dX5_mark_163 : decode cX5_mark 163 = .ok (.getfield 13, 3) := by decide +kernel
theorem dX5_mark_166 : decode cX5_mark 166 = .ok (.bipush 19, 2) := by decide +kernel
theorem dX5_mark_168 : decode cX5_mark 168 = .ok (.iload_n 2, 1) := by decide +kernel
theorem dX5_mark_169 : decode cX5_mark 169 = .ok (.iadd, 1) := by decide +kernel
theorem dX5_mark_170 : decode cX5_mark 170 = .ok (.iaload, 1) := by decide +kernel
theorem dX5_mark_171 : decode cX5_mark 171 = .ok (.isub, 1) := by decide +kernel
theorem dX5_mark_172 : decode cX5_mark 172 = .ok (.goto 14, 3) := by decide +kernel
theorem dX5_mark_175 : decode cX5_mark 175 = .ok (.iload_n 3, 1) := by decide +kernel
theorem dX5_mark_176 : decode cX5_mark 176 = .ok (.aload_n 0, 1) := by decide +kernel
theorem dX5_mark_177 : decode cX5_mark 177 = .ok (.getfield 13, 3) := by decide +kernel
theorem dX5_mark_180 : decode cX5_mark 180 = .ok (.bipush 31, 2) := by decide +kernel
theorem dX5_mark_182 : decode cX5_mark 182 = .ok (.iload_n 2, 1) := by decide +kernel
theorem dX5_mark_183 : decode cX5_mark 183 = .ok (.iadd, 1) := by decide +kernel
theorem dX5_mark_184 : decode cX5_mark 184 = .ok (.iaload, 1) := by decide +kernel
theorem dX5_mark_185 : decode cX5_mark 185 = .ok (.iadd, 1) := by decide +kernel
theorem dX5_mark_186 : decode cX5_mark 186 = .ok (.ireturn, 1) := by decide +kernel
theorem dX5_keep_0 : decode cX5_keep 0 = .ok (.iload_n 1, 1) := by decide +kernel
theorem dX5_keep_1 : decode cX5_keep 1 = .ok (.iconst 0, 1) := by decide +kernel
theorem dX5_keep_2 : decode cX5_keep 2 = .ok (.iconst 1, 1) := by decide +kernel
theorem dX5_keep_3 : decode cX5_keep 3 = .ok (.invokestatic 48, 3) := by decide +kernel
theorem dX5_keep_6 : decode cX5_keep 6 = .ok (.ifCond .ne 5, 3) := by decide +kernel
theorem dX5_keep_9 : decode cX5_keep 9 = .ok (.iconst (-1), 1) := by decide +kernel
theorem dX5_keep_10 : decode cX5_keep 10 = .ok (.ireturn, 1) := by decide +kernel
theorem dX5_keep_11 : decode cX5_keep 11 = .ok (.iconst 0, 1) := by decide +kernel
theorem dX5_keep_12 : decode cX5_keep 12 = .ok (.istore_n 2, 1) := by decide +kernel
theorem dX5_keep_13 : decode cX5_keep 13 = .ok (.iload_n 2, 1) := by decide +kernel
theorem dX5_keep_14 : decode cX5_keep 14 = .ok (.bipush 38, 2) := by decide +kernel
theorem dX5_keep_16 : decode cX5_keep 16 = .ok (.if_icmp .ge 26, 3) := by decide +kernel
theorem dX5_keep_19 : decode cX5_keep 19 = .ok (.aload_n 0, 1) := by decide +kernel
theorem dX5_keep_20 : decode cX5_keep 20 = .ok (.getfield 22, 3) := by decide +kernel
theorem dX5_keep_23 : decode cX5_keep 23 = .ok (.bipush 38, 2) := by decide +kernel
theorem dX5_keep_25 : decode cX5_keep 25 = .ok (.iload_n 1, 1) := by decide +kernel
theorem dX5_keep_26 : decode cX5_keep 26 = .ok (.imul, 1) := by decide +kernel
theorem dX5_keep_27 : decode cX5_keep 27 = .ok (.iload_n 2, 1) := by decide +kernel
theorem dX5_keep_28 : decode cX5_keep 28 = .ok (.iadd, 1) := by decide +kernel
theorem dX5_keep_29 : decode cX5_keep 29 = .ok (.aload_n 0, 1) := by decide +kernel
theorem dX5_keep_30 : decode cX5_keep 30 = .ok (.getfield 19, 3) := by decide +kernel
theorem dX5_keep_33 : decode cX5_keep 33 = .ok (.iload_n 2, 1) := by decide +kernel
theorem dX5_keep_34 : decode cX5_keep 34 = .ok (.iaload, 1) := by decide +kernel
theorem dX5_keep_35 : decode cX5_keep 35 = .ok (.iastore, 1) := by decide +kernel
theorem dX5_keep_36 : decode cX5_keep 36 = .ok (.iinc 2 1, 3) := by decide +kernel
theorem dX5_keep_39 : decode cX5_keep 39 = .ok (.goto (-26), 3) := by decide +kernel
theorem dX5_keep_42 : decode cX5_keep 42 = .ok (.aload_n 0, 1) := by decide +kernel
theorem dX5_keep_43 : decode cX5_keep 43 = .ok (.getfield 25, 3) := by decide +kernel
theorem dX5_keep_46 : decode cX5_keep 46 = .ok (.iload_n 1, 1) := by decide +kernel
theorem dX5_keep_47 : decode cX5_keep 47 = .ok (.iconst 1, 1) := by decide +kernel
theorem dX5_keep_48 : decode cX5_keep 48 = .ok (.bastore, 1) := by decide +kernel
theorem dX5_keep_49 : decode cX5_keep 49 = .ok (.aload_n 0, 1) := by decide +kernel
theorem dX5_keep_50 : decode cX5_keep 50 = .ok (.getfield 19, 3) := by decide +kernel
theorem dX5_keep_53 : decode cX5_keep 53 = .ok (.iconst 0, 1) := by decide +kernel
theorem dX5_keep_54 : decode cX5_keep 54 = .ok (.iaload, 1) := by decide +kernel
theorem dX5_keep_55 : decode cX5_keep 55 = .ok (.ireturn, 1) := by decide +kernel
theorem dX5_back_0 : decode cX5_back 0 = .ok (.iload_n 1, 1) := by decide +kernel
theorem dX5_back_1 : decode cX5_back 1 = .ok (.iconst 0, 1) := by decide +kernel
theorem dX5_back_2 : decode cX5_back 2 = .ok (.iconst 1, 1) := by decide +kernel
theorem dX5_back_3 : decode cX5_back 3 = .ok (.invokestatic 48, 3) := by decide +kernel
theorem dX5_back_6 : decode cX5_back 6 = .ok (.ifCond .ne 5, 3) := by decide +kernel
theorem dX5_back_9 : decode cX5_back 9 = .ok (.iconst (-1), 1) := by decide +kernel
theorem dX5_back_10 : decode cX5_back 10 = .ok (.ireturn, 1) := by decide +kernel
theorem dX5_back_11 : decode cX5_back 11 = .ok (.aload_n 0, 1) := by decide +kernel
theorem dX5_back_12 : decode cX5_back 12 = .ok (.getfield 25, 3) := by decide +kernel
theorem dX5_back_15 : decode cX5_back 15 = .ok (.iload_n 1, 1) := by decide +kernel
theorem dX5_back_16 : decode cX5_back 16 = .ok (.baload, 1) := by decide +kernel
theorem dX5_back_17 : decode cX5_back 17 = .ok (.ifCond .ne 6, 3) := by decide +kernel
theorem dX5_back_20 : decode cX5_back 20 = .ok (.bipush (-2), 2) := by decide +kernel
theorem dX5_back_22 : decode cX5_back 22 = .ok (.ireturn, 1) := by decide +kernel
theorem dX5_back_23 : decode cX5_back 23 = .ok (.iconst 0, 1) := by decide +kernel
theorem dX5_back_24 : decode cX5_back 24 = .ok (.istore_n 2, 1) := by decide +kernel
theorem dX5_back_25 : decode cX5_back 25 = .ok (.iload_n 2, 1) := by decide +kernel
theorem dX5_back_26 : decode cX5_back 26 = .ok (.bipush 38, 2) := by decide +kernel
theorem dX5_back_28 : decode cX5_back 28 = .ok (.if_icmp .ge 26, 3) := by decide +kernel
theorem dX5_back_31 : decode cX5_back 31 = .ok (.aload_n 0, 1) := by decide +kernel
theorem dX5_back_32 : decode cX5_back 32 = .ok (.getfield 19, 3) := by decide +kernel
theorem dX5_back_35 : decode cX5_back 35 = .ok (.iload_n 2, 1) := by decide +kernel
theorem dX5_back_36 : decode cX5_back 36 = .ok (.aload_n 0, 1) := by decide +kernel
theorem dX5_back_37 : decode cX5_back 37 = .ok (.getfield 22, 3) := by decide +kernel
theorem dX5_back_40 : decode cX5_back 40 = .ok (.bipush 38, 2) := by decide +kernel
theorem dX5_back_42 : decode cX5_back 42 = .ok (.iload_n 1, 1) := by decide +kernel
theorem dX5_back_43 : decode cX5_back 43 = .ok (.imul, 1) := by decide +kernel
theorem dX5_back_44 : decode cX5_back 44 = .ok (.iload_n 2, 1) := by decide +kernel
theorem dX5_back_45 : decode cX5_back 45 = .ok (.iadd, 1) := by decide +kernel
theorem dX5_back_46 : decode cX5_back 46 = .ok (.iaload, 1) := by decide +kernel
theorem dX5_back_47 : decode cX5_back 47 = .ok (.iastore, 1) := by decide +kernel
theorem dX5_back_48 : decode cX5_back 48 = .ok (.iinc 2 1, 3) := by decide +kernel
theorem dX5_back_51 : decode cX5_back 51 = .ok (.goto (-26), 3) := by decide +kernel
theorem dX5_back_54 : decode cX5_back 54 = .ok (.aload_n 0, 1) := by decide +kernel
theorem dX5_back_55 : decode cX5_back 55 = .ok (.getfield 19, 3) := by decide +kernel
theorem dX5_back_58 : decode cX5_back 58 = .ok (.iconst 0, 1) := by decide +kernel
theorem dX5_back_59 : decode cX5_back 59 = .ok (.iaload, 1) := by decide +kernel
theorem dX5_back_60 : decode cX5_back 60 = .ok (.ireturn, 1) := by decide +kernel
theorem dX5_count_0 : decode cX5_count 0 = .ok (.iload_n 1, 1) := by decide +kernel
theorem dX5_count_1 : decode cX5_count 1 = .ok (.iconst 0, 1) := by decide +kernel
theorem dX5_count_2 : decode cX5_count 2 = .ok (.bipush 7, 2) := by decide +kernel
theorem dX5_count_4 : decode cX5_count 4 = .ok (.invokestatic 48, 3) := by decide +kernel
theorem dX5_count_7 : decode cX5_count 7 = .ok (.ifCond .ne 5, 3) := by decide +kernel
theorem dX5_count_10 : decode cX5_count 10 = .ok (.iconst (-1), 1) := by decide +kernel
theorem dX5_count_11 : decode cX5_count 11 = .ok (.ireturn, 1) := by decide +kernel
theorem dX5_count_12 : decode cX5_count 12 = .ok (.iload_n 1, 1) := by decide +kernel
theorem dX5_count_13 : decode cX5_count 13 = .ok (.ifCond .ne 10, 3) := by decide +kernel
theorem dX5_count_16 : decode cX5_count 16 = .ok (.aload_n 0, 1) := by decide +kernel
theorem dX5_count_17 : decode cX5_count 17 = .ok (.invokevirtual 44, 3) := by decide +kernel
theorem dX5_count_20 : decode cX5_count 20 = .ok (.goto 38, 3) := by decide +kernel
theorem dX5_count_23 : decode cX5_count 23 = .ok (.iload_n 1, 1) := by decide +kernel
theorem dX5_count_24 : decode cX5_count 24 = .ok (.iconst 1, 1) := by decide +kernel
theorem dX5_count_25 : decode cX5_count 25 = .ok (.if_icmp .ne 12, 3) := by decide +kernel
theorem dX5_count_28 : decode cX5_count 28 = .ok (.aload_n 0, 1) := by decide +kernel
theorem dX5_count_29 : decode cX5_count 29 = .ok (.getfield 13, 3) := by decide +kernel
theorem dX5_count_32 : decode cX5_count 32 = .ok (.iconst 3, 1) := by decide +kernel
theorem dX5_count_33 : decode cX5_count 33 = .ok (.iaload, 1) := by decide +kernel
theorem dX5_count_34 : decode cX5_count 34 = .ok (.goto 24, 3) := by decide +kernel
theorem dX5_count_37 : decode cX5_count 37 = .ok (.iload_n 1, 1) := by decide +kernel
theorem dX5_count_38 : decode cX5_count 38 = .ok (.iconst 2, 1) := by decide +kernel
theorem dX5_count_39 : decode cX5_count 39 = .ok (.if_icmp .ne 12, 3) := by decide +kernel
theorem dX5_count_42 : decode cX5_count 42 = .ok (.aload_n 0, 1) := by decide +kernel
theorem dX5_count_43 : decode cX5_count 43 = .ok (.getfield 13, 3) := by decide +kernel
theorem dX5_count_46 : decode cX5_count 46 = .ok (.iconst 4, 1) := by decide +kernel
theorem dX5_count_47 : decode cX5_count 47 = .ok (.iaload, 1) := by decide +kernel
theorem dX5_count_48 : decode cX5_count 48 = .ok (.goto 10, 3) := by decide +kernel
theorem dX5_count_51 : decode cX5_count 51 = .ok (.aload_n 0, 1) := by decide +kernel
theorem dX5_count_52 : decode cX5_count 52 = .ok (.invokevirtual 150, 3) := by decide +kernel
theorem dX5_count_55 : decode cX5_count 55 = .ok (.invokestatic 175, 3) := by decide +kernel
theorem dX5_count_58 : decode cX5_count 58 = .ok (.istore_n 2, 1) := by decide +kernel
theorem dX5_count_59 : decode cX5_count 59 = .ok (.iload_n 1, 1) := by decide +kernel
theorem dX5_count_60 : decode cX5_count 60 = .ok (.iconst 4, 1) := by decide +kernel
theorem dX5_count_61 : decode cX5_count 61 = .ok (.if_icmp .ge 7, 3) := by decide +kernel
theorem dX5_count_64 : decode cX5_count 64 = .ok (.iload_n 2, 1) := by decide +kernel
theorem dX5_count_65 : decode cX5_count 65 = .ok (.goto 51, 3) := by decide +kernel
theorem dX5_count_68 : decode cX5_count 68 = .ok (.iload_n 1, 1) := by decide +kernel
theorem dX5_count_69 : decode cX5_count 69 = .ok (.iconst 4, 1) := by decide +kernel
theorem dX5_count_70 : decode cX5_count 70 = .ok (.if_icmp .ne 12, 3) := by decide +kernel
theorem dX5_count_73 : decode cX5_count 73 = .ok (.aload_n 0, 1) := by decide +kernel
theorem dX5_count_74 : decode cX5_count 74 = .ok (.getfield 19, 3) := by decide +kernel
theorem dX5_count_77 : decode cX5_count 77 = .ok (.iconst 0, 1) := by decide +kernel
theorem dX5_count_78 : decode cX5_count 78 = .ok (.iaload, 1) := by decide +kernel
theorem dX5_count_79 : decode cX5_count 79 = .ok (.goto 37, 3) := by decide +kernel
theorem dX5_count_82 : decode cX5_count 82 = .ok (.iload_n 1, 1) := by decide +kernel
theorem dX5_count_83 : decode cX5_count 83 = .ok (.iconst 5, 1) := by decide +kernel
theorem dX5_count_84 : decode cX5_count 84 = .ok (.if_icmp .ne 12, 3) := by decide +kernel
theorem dX5_count_87 : decode cX5_count 87 = .ok (.aload_n 0, 1) := by decide +kernel
theorem dX5_count_88 : decode cX5_count 88 = .ok (.getfield 13, 3) := by decide +kernel
theorem dX5_count_91 : decode cX5_count 91 = .ok (.iconst 2, 1) := by decide +kernel
theorem dX5_count_92 : decode cX5_count 92 = .ok (.iaload, 1) := by decide +kernel
theorem dX5_count_93 : decode cX5_count 93 = .ok (.goto 23, 3) := by decide +kernel
theorem dX5_count_96 : decode cX5_count 96 = .ok (.iload_n 1, 1) := by decide +kernel
theorem dX5_count_97 : decode cX5_count 97 = .ok (.bipush 6, 2) := by decide +kernel
theorem dX5_count_99 : decode cX5_count 99 = .ok (.if_icmp .ne 13, 3) := by decide +kernel
theorem dX5_count_102 : decode cX5_count 102 = .ok (.aload_n 0, 1) := by decide +kernel
theorem dX5_count_103 : decode cX5_count 103 = .ok (.getfield 19, 3) := by decide +kernel
theorem dX5_count_106 : decode cX5_count 106 = .ok (.bipush 13, 2) := by decide +kernel
theorem dX5_count_108 : decode cX5_count 108 = .ok (.iaload, 1) := by decide +kernel
theorem dX5_count_109 : decode cX5_count 109 = .ok (.goto 7, 3) := by decide +kernel
theorem dX5_count_112 : decode cX5_count 112 = .ok (.aload_n 0, 1) := by decide +kernel
theorem dX5_count_113 : decode cX5_count 113 = .ok (.getfield 52, 3) := by decide +kernel
theorem dX5_count_116 : decode cX5_count 116 = .ok (.ireturn, 1) := by decide +kernel
theorem dX5_trace_0 : decode cX5_trace 0 = .ok (.aload_n 0, 1) := by decide +kernel
theorem dX5_trace_1 : decode cX5_trace 1 = .ok (.getfield 192, 3) := by decide +kernel
theorem dX5_trace_4 : decode cX5_trace 4 = .ok (.lreturn, 1) := by decide +kernel
theorem dJ6_bitCount_0f7a4_0 : decode cJ6_bitCount_0f7a4 0 = .ok (.iload_n 0, 1) := by decide +kernel
theorem dJ6_bitCount_0f7a4_1 : decode cJ6_bitCount_0f7a4 1 = .ok (.iload_n 0, 1) := by decide +kernel
theorem dJ6_bitCount_0f7a4_2 : decode cJ6_bitCount_0f7a4 2 = .ok (.iconst 1, 1) := by decide +kernel
theorem dJ6_bitCount_0f7a4_3 : decode cJ6_bitCount_0f7a4 3 = .ok (.iushr, 1) := by decide +kernel
theorem dJ6_bitCount_0f7a4_4 : decode cJ6_bitCount_0f7a4 4 = .ok (.ldc_w 265, 3) := by decide +kernel
theorem dJ6_bitCount_0f7a4_7 : decode cJ6_bitCount_0f7a4 7 = .ok (.iand, 1) := by decide +kernel
theorem dJ6_bitCount_0f7a4_8 : decode cJ6_bitCount_0f7a4 8 = .ok (.isub, 1) := by decide +kernel
theorem dJ6_bitCount_0f7a4_9 : decode cJ6_bitCount_0f7a4 9 = .ok (.istore_n 0, 1) := by decide +kernel
theorem dJ6_bitCount_0f7a4_10 : decode cJ6_bitCount_0f7a4 10 = .ok (.iload_n 0, 1) := by decide +kernel
theorem dJ6_bitCount_0f7a4_11 : decode cJ6_bitCount_0f7a4 11 = .ok (.ldc_w 266, 3) := by decide +kernel
theorem dJ6_bitCount_0f7a4_14 : decode cJ6_bitCount_0f7a4 14 = .ok (.iand, 1) := by decide +kernel
theorem dJ6_bitCount_0f7a4_15 : decode cJ6_bitCount_0f7a4 15 = .ok (.iload_n 0, 1) := by decide +kernel
theorem dJ6_bitCount_0f7a4_16 : decode cJ6_bitCount_0f7a4 16 = .ok (.iconst 2, 1) := by decide +kernel
theorem dJ6_bitCount_0f7a4_17 : decode cJ6_bitCount_0f7a4 17 = .ok (.iushr, 1) := by decide +kernel
theorem dJ6_bitCount_0f7a4_18 : decode cJ6_bitCount_0f7a4 18 = .ok (.ldc_w 266, 3) := by decide +kernel
theorem dJ6_bitCount_0f7a4_21 : decode cJ6_bitCount_0f7a4 21 = .ok (.iand, 1) := by decide +kernel
theorem dJ6_bitCount_0f7a4_22 : decode cJ6_bitCount_0f7a4 22 = .ok (.iadd, 1) := by decide +kernel
theorem dJ6_bitCount_0f7a4_23 : decode cJ6_bitCount_0f7a4 23 = .ok (.istore_n 0, 1) := by decide +kernel
theorem dJ6_bitCount_0f7a4_24 : decode cJ6_bitCount_0f7a4 24 = .ok (.iload_n 0, 1) := by decide +kernel
theorem dJ6_bitCount_0f7a4_25 : decode cJ6_bitCount_0f7a4 25 = .ok (.iload_n 0, 1) := by decide +kernel
theorem dJ6_bitCount_0f7a4_26 : decode cJ6_bitCount_0f7a4 26 = .ok (.iconst 4, 1) := by decide +kernel
theorem dJ6_bitCount_0f7a4_27 : decode cJ6_bitCount_0f7a4 27 = .ok (.iushr, 1) := by decide +kernel
theorem dJ6_bitCount_0f7a4_28 : decode cJ6_bitCount_0f7a4 28 = .ok (.iadd, 1) := by decide +kernel
theorem dJ6_bitCount_0f7a4_29 : decode cJ6_bitCount_0f7a4 29 = .ok (.ldc_w 267, 3) := by decide +kernel
theorem dJ6_bitCount_0f7a4_32 : decode cJ6_bitCount_0f7a4 32 = .ok (.iand, 1) := by decide +kernel
theorem dJ6_bitCount_0f7a4_33 : decode cJ6_bitCount_0f7a4 33 = .ok (.istore_n 0, 1) := by decide +kernel
theorem dJ6_bitCount_0f7a4_34 : decode cJ6_bitCount_0f7a4 34 = .ok (.iload_n 0, 1) := by decide +kernel
theorem dJ6_bitCount_0f7a4_35 : decode cJ6_bitCount_0f7a4 35 = .ok (.iload_n 0, 1) := by decide +kernel
theorem dJ6_bitCount_0f7a4_36 : decode cJ6_bitCount_0f7a4 36 = .ok (.bipush 8, 2) := by decide +kernel
theorem dJ6_bitCount_0f7a4_38 : decode cJ6_bitCount_0f7a4 38 = .ok (.iushr, 1) := by decide +kernel
theorem dJ6_bitCount_0f7a4_39 : decode cJ6_bitCount_0f7a4 39 = .ok (.iadd, 1) := by decide +kernel
theorem dJ6_bitCount_0f7a4_40 : decode cJ6_bitCount_0f7a4 40 = .ok (.istore_n 0, 1) := by decide +kernel
theorem dJ6_bitCount_0f7a4_41 : decode cJ6_bitCount_0f7a4 41 = .ok (.iload_n 0, 1) := by decide +kernel
theorem dJ6_bitCount_0f7a4_42 : decode cJ6_bitCount_0f7a4 42 = .ok (.iload_n 0, 1) := by decide +kernel
theorem dJ6_bitCount_0f7a4_43 : decode cJ6_bitCount_0f7a4 43 = .ok (.bipush 16, 2) := by decide +kernel
theorem dJ6_bitCount_0f7a4_45 : decode cJ6_bitCount_0f7a4 45 = .ok (.iushr, 1) := by decide +kernel
theorem dJ6_bitCount_0f7a4_46 : decode cJ6_bitCount_0f7a4 46 = .ok (.iadd, 1) := by decide +kernel
theorem dJ6_bitCount_0f7a4_47 : decode cJ6_bitCount_0f7a4 47 = .ok (.istore_n 0, 1) := by decide +kernel
theorem dJ6_bitCount_0f7a4_48 : decode cJ6_bitCount_0f7a4 48 = .ok (.iload_n 0, 1) := by decide +kernel
theorem dJ6_bitCount_0f7a4_49 : decode cJ6_bitCount_0f7a4 49 = .ok (.bipush 63, 2) := by decide +kernel
theorem dJ6_bitCount_0f7a4_51 : decode cJ6_bitCount_0f7a4 51 = .ok (.iand, 1) := by decide +kernel
theorem dJ6_bitCount_0f7a4_52 : decode cJ6_bitCount_0f7a4 52 = .ok (.ireturn, 1) := by decide +kernel
theorem dJ9_abs_0f7a4_0 : decode cJ9_abs_0f7a4 0 = .ok (.iload_n 0, 1) := by decide +kernel
theorem dJ9_abs_0f7a4_1 : decode cJ9_abs_0f7a4 1 = .ok (.ifCond .ge 8, 3) := by decide +kernel
theorem dJ9_abs_0f7a4_4 : decode cJ9_abs_0f7a4 4 = .ok (.iload_n 0, 1) := by decide +kernel
theorem dJ9_abs_0f7a4_5 : decode cJ9_abs_0f7a4 5 = .ok (.ineg, 1) := by decide +kernel
theorem dJ9_abs_0f7a4_6 : decode cJ9_abs_0f7a4 6 = .ok (.goto 4, 3) := by decide +kernel
theorem dJ9_abs_0f7a4_9 : decode cJ9_abs_0f7a4 9 = .ok (.iload_n 0, 1) := by decide +kernel
theorem dJ9_abs_0f7a4_10 : decode cJ9_abs_0f7a4 10 = .ok (.ireturn, 1) := by decide +kernel
theorem dJ9_max_7cf53_0 : decode cJ9_max_7cf53 0 = .ok (.iload_n 0, 1) := by decide +kernel
theorem dJ9_max_7cf53_1 : decode cJ9_max_7cf53 1 = .ok (.iload_n 1, 1) := by decide +kernel
theorem dJ9_max_7cf53_2 : decode cJ9_max_7cf53 2 = .ok (.if_icmp .lt 7, 3) := by decide +kernel
theorem dJ9_max_7cf53_5 : decode cJ9_max_7cf53 5 = .ok (.iload_n 0, 1) := by decide +kernel
theorem dJ9_max_7cf53_6 : decode cJ9_max_7cf53 6 = .ok (.goto 4, 3) := by decide +kernel
theorem dJ9_max_7cf53_9 : decode cJ9_max_7cf53 9 = .ok (.iload_n 1, 1) := by decide +kernel
theorem dJ9_max_7cf53_10 : decode cJ9_max_7cf53 10 = .ok (.ireturn, 1) := by decide +kernel
theorem dJ9_min_7cf53_0 : decode cJ9_min_7cf53 0 = .ok (.iload_n 0, 1) := by decide +kernel
theorem dJ9_min_7cf53_1 : decode cJ9_min_7cf53 1 = .ok (.iload_n 1, 1) := by decide +kernel
theorem dJ9_min_7cf53_2 : decode cJ9_min_7cf53 2 = .ok (.if_icmp .gt 7, 3) := by decide +kernel
theorem dJ9_min_7cf53_5 : decode cJ9_min_7cf53 5 = .ok (.iload_n 0, 1) := by decide +kernel
theorem dJ9_min_7cf53_6 : decode cJ9_min_7cf53 6 = .ok (.goto 4, 3) := by decide +kernel
theorem dJ9_min_7cf53_9 : decode cJ9_min_7cf53 9 = .ok (.iload_n 1, 1) := by decide +kernel
theorem dJ9_min_7cf53_10 : decode cJ9_min_7cf53 10 = .ok (.ireturn, 1) := by decide +kernel
theorem dJ0_length_8abf5_0 : decode cJ0_length_8abf5 0 = .ok (.aload_n 0, 1) := by decide +kernel
theorem dJ0_length_8abf5_1 : decode cJ0_length_8abf5 1 = .ok (.getfield 9, 3) := by decide +kernel
theorem dJ0_length_8abf5_4 : decode cJ0_length_8abf5 4 = .ok (.arraylength, 1) := by decide +kernel
theorem dJ0_length_8abf5_5 : decode cJ0_length_8abf5 5 = .ok (.aload_n 0, 1) := by decide +kernel
theorem dJ0_length_8abf5_6 : decode cJ0_length_8abf5 6 = .ok (.invokevirtual 335, 3) := by decide +kernel
theorem dJ0_length_8abf5_9 : decode cJ0_length_8abf5 9 = .ok (.ishr, 1) := by decide +kernel
theorem dJ0_length_8abf5_10 : decode cJ0_length_8abf5 10 = .ok (.ireturn, 1) := by decide +kernel
theorem dJ0_charAt_5068e_0 : decode cJ0_charAt_5068e 0 = .ok (.aload_n 0, 1) := by decide +kernel
theorem dJ0_charAt_5068e_1 : decode cJ0_charAt_5068e 1 = .ok (.invokevirtual 492, 3) := by decide +kernel
theorem dJ0_charAt_5068e_4 : decode cJ0_charAt_5068e 4 = .ok (.ifCond .eq 12, 3) := by decide +kernel
theorem dJ0_charAt_5068e_7 : decode cJ0_charAt_5068e 7 = .ok (.aload_n 0, 1) := by decide +kernel
theorem dJ0_charAt_5068e_8 : decode cJ0_charAt_5068e 8 = .ok (.getfield 9, 3) := by decide +kernel
theorem dJ0_charAt_5068e_11 : decode cJ0_charAt_5068e 11 = .ok (.iload_n 1, 1) := by decide +kernel
theorem dJ0_charAt_5068e_12 : decode cJ0_charAt_5068e 12 = .ok (.invokestatic 495, 3) := by decide +kernel
theorem dJ0_charAt_5068e_15 : decode cJ0_charAt_5068e 15 = .ok (.ireturn, 1) := by decide +kernel
theorem dJ0_charAt_5068e_16 : decode cJ0_charAt_5068e 16 = .ok (.aload_n 0, 1) := by decide +kernel
theorem dJ0_charAt_5068e_17 : decode cJ0_charAt_5068e 17 = .ok (.getfield 9, 3) := by decide +kernel
theorem dJ0_charAt_5068e_20 : decode cJ0_charAt_5068e 20 = .ok (.iload_n 1, 1) := by decide +kernel
theorem dJ0_charAt_5068e_21 : decode cJ0_charAt_5068e 21 = .ok (.invokestatic 498, 3) := by decide +kernel
theorem dJ0_charAt_5068e_24 : decode cJ0_charAt_5068e 24 = .ok (.ireturn, 1) := by decide +kernel
theorem dJ0_coder_7d493_0 : decode cJ0_coder_7d493 0 = .ok (.getstatic 38, 3) := by decide +kernel
theorem dJ0_coder_7d493_3 : decode cJ0_coder_7d493 3 = .ok (.ifCond .eq 10, 3) := by decide +kernel
theorem dJ0_coder_7d493_6 : decode cJ0_coder_7d493 6 = .ok (.aload_n 0, 1) := by decide +kernel
theorem dJ0_coder_7d493_7 : decode cJ0_coder_7d493 7 = .ok (.getfield 15, 3) := by decide +kernel
theorem dJ0_coder_7d493_10 : decode cJ0_coder_7d493 10 = .ok (.goto 4, 3) := by decide +kernel
theorem dJ0_coder_7d493_13 : decode cJ0_coder_7d493 13 = .ok (.iconst 1, 1) := by decide +kernel
theorem dJ0_coder_7d493_14 : decode cJ0_coder_7d493 14 = .ok (.ireturn, 1) := by decide +kernel
theorem dJ0_isLatin1_aae02_0 : decode cJ0_isLatin1_aae02 0 = .ok (.getstatic 38, 3) := by decide +kernel
theorem dJ0_isLatin1_aae02_3 : decode cJ0_isLatin1_aae02 3 = .ok (.ifCond .eq 14, 3) := by decide +kernel
theorem dJ0_isLatin1_aae02_6 : decode cJ0_isLatin1_aae02 6 = .ok (.aload_n 0, 1) := by decide +kernel
theorem dJ0_isLatin1_aae02_7 : decode cJ0_isLatin1_aae02 7 = .ok (.getfield 15, 3) := by decide +kernel
theorem dJ0_isLatin1_aae02_10 : decode cJ0_isLatin1_aae02 10 = .ok (.ifCond .ne 7, 3) := by decide +kernel
theorem dJ0_isLatin1_aae02_13 : decode cJ0_isLatin1_aae02 13 = .ok (.iconst 1, 1) := by decide +kernel
theorem dJ0_isLatin1_aae02_14 : decode cJ0_isLatin1_aae02 14 = .ok (.goto 4, 3) := by decide +kernel
theorem dJ0_isLatin1_aae02_17 : decode cJ0_isLatin1_aae02 17 = .ok (.iconst 0, 1) := by decide +kernel
theorem dJ0_isLatin1_aae02_18 : decode cJ0_isLatin1_aae02 18 = .ok (.ireturn, 1) := by decide +kernel
theorem dJ0_checkIndex_df160_0 : decode cJ0_checkIndex_df160 0 = .ok (.iload_n 0, 1) := by decide +kernel
theorem dJ0_checkIndex_df160_1 : decode cJ0_checkIndex_df160 1 = .ok (.iload_n 1, 1) := by decide +kernel
theorem dJ0_checkIndex_df160_2 : decode cJ0_checkIndex_df160 2 = .ok (.getstatic 1053, 3) := by decide +kernel
theorem dJ0_checkIndex_df160_5 : decode cJ0_checkIndex_df160 5 = .ok (.invokestatic 1059, 3) := by decide +kernel
theorem dJ0_checkIndex_df160_8 : decode cJ0_checkIndex_df160 8 = .ok (.pop, 1) := by decide +kernel
theorem dJ0_checkIndex_df160_9 : decode cJ0_checkIndex_df160 9 = .ok (.return_, 1) := by decide +kernel
theorem dJ1_charAt_3b067_0 : decode cJ1_charAt_3b067 0 = .ok (.iload_n 1, 1) := by decide +kernel
theorem dJ1_charAt_3b067_1 : decode cJ1_charAt_3b067 1 = .ok (.aload_n 0, 1) := by decide +kernel
theorem dJ1_charAt_3b067_2 : decode cJ1_charAt_3b067 2 = .ok (.arraylength, 1) := by decide +kernel
theorem dJ1_charAt_3b067_3 : decode cJ1_charAt_3b067 3 = .ok (.invokestatic 9, 3) := by decide +kernel
theorem dJ1_charAt_3b067_6 : decode cJ1_charAt_3b067 6 = .ok (.aload_n 0, 1) := by decide +kernel
theorem dJ1_charAt_3b067_7 : decode cJ1_charAt_3b067 7 = .ok (.iload_n 1, 1) := by decide +kernel
theorem dJ1_charAt_3b067_8 : decode cJ1_charAt_3b067 8 = .ok (.baload, 1) := by decide +kernel
theorem dJ1_charAt_3b067_9 : decode cJ1_charAt_3b067 9 = .ok (.sipush 255, 3) := by decide +kernel
theorem dJ1_charAt_3b067_12 : decode cJ1_charAt_3b067 12 = .ok (.iand, 1) := by decide +kernel
theorem dJ1_charAt_3b067_13 : decode cJ1_charAt_3b067 13 = .ok (.i2c, 1) := by decide +kernel
theorem dJ1_charAt_3b067_14 : decode cJ1_charAt_3b067 14 = .ok (.ireturn, 1) := by decide +kernel
theorem dJ2_getChar_3b067_0 : decode cJ2_getChar_3b067 0 = .ok (.getstatic 44, 3) := by decide +kernel
theorem dJ2_getChar_3b067_3 : decode cJ2_getChar_3b067 3 = .ok (.ifCond .ne 25, 3) := by decide +kernel
theorem dJ2_getChar_3b067_6 : decode cJ2_getChar_3b067 6 = .ok (.iload_n 1, 1) := by decide +kernel
theorem dJ2_getChar_3b067_7 : decode cJ2_getChar_3b067 7 = .ok (.ifCond .lt 11, 3) := by decide +kernel
theorem dJ2_getChar_3b067_10 : decode cJ2_getChar_3b067 10 = .ok (.iload_n 1, 1) := by decide +kernel
theorem dJ2_getChar_3b067_11 : decode cJ2_getChar_3b067 11 = .ok (.aload_n 0, 1) := by decide +kernel
theorem dJ2_getChar_3b067_12 : decode cJ2_getChar_3b067 12 = .ok (.invokestatic 48, 3) := by decide +kernel
theorem dJ2_getChar_3b067_15 : decode cJ2_getChar_3b067 15 = .ok (.if_icmp .lt 13, 3) := by decide +kernel
theorem dJ2_getChar_3b067_18 : decode cJ2_getChar_3b067 18 = .ok (.new 52, 3) := by decide +kernel
theorem dJ2_getChar_3b067_21 : decode cJ2_getChar_3b067 21 = .ok (.dup, 1) := by decide +kernel
theorem dJ2_getChar_3b067_22 : decode cJ2_getChar_3b067 22 = .ok (.ldc 54, 2) := by decide +kernel
theorem dJ2_getChar_3b067_24 : decode cJ2_getChar_3b067 24 = .ok (.invokespecial 56, 3) := by decide +kernel
theorem dJ2_getChar_3b067_27 : decode cJ2_getChar_3b067 27 = .ok (.athrow, 1) := by decide +kernel
theorem dJ2_getChar_3b067_28 : decode cJ2_getChar_3b067 28 = .ok (.iload_n 1, 1) := by decide +kernel
theorem dJ2_getChar_3b067_29 : decode cJ2_getChar_3b067 29 = .ok (.iconst 1, 1) := by decide +kernel
theorem dJ2_getChar_3b067_30 : decode cJ2_getChar_3b067 30 = .ok (.ishl, 1) := by decide +kernel
theorem dJ2_getChar_3b067_31 : decode cJ2_getChar_3b067 31 = .ok (.istore_n 1, 1) := by decide +kernel
theorem dJ2_getChar_3b067_32 : decode cJ2_getChar_3b067 32 = .ok (.aload_n 0, 1) := by decide +kernel
theorem dJ2_getChar_3b067_33 : decode cJ2_getChar_3b067 33 = .ok (.iload_n 1, 1) := by decide +kernel
theorem dJ2_getChar_3b067_34 : decode cJ2_getChar_3b067 34 = .ok (.iinc 1 1, 3) := by decide +kernel
theorem dJ2_getChar_3b067_37 : decode cJ2_getChar_3b067 37 = .ok (.baload, 1) := by decide +kernel
theorem dJ2_getChar_3b067_38 : decode cJ2_getChar_3b067 38 = .ok (.sipush 255, 3) := by decide +kernel
theorem dJ2_getChar_3b067_41 : decode cJ2_getChar_3b067 41 = .ok (.iand, 1) := by decide +kernel
theorem dJ2_getChar_3b067_42 : decode cJ2_getChar_3b067 42 = .ok (.getstatic 59, 3) := by decide +kernel
theorem dJ2_getChar_3b067_45 : decode cJ2_getChar_3b067 45 = .ok (.ishl, 1) := by decide +kernel
theorem dJ2_getChar_3b067_46 : decode cJ2_getChar_3b067 46 = .ok (.aload_n 0, 1) := by decide +kernel
theorem dJ2_getChar_3b067_47 : decode cJ2_getChar_3b067 47 = .ok (.iload_n 1, 1) := by decide +kernel
theorem dJ2_getChar_3b067_48 : decode cJ2_getChar_3b067 48 = .ok (.baload, 1) := by decide +kernel
theorem dJ2_getChar_3b067_49 : decode cJ2_getChar_3b067 49 = .ok (.sipush 255, 3) := by decide +kernel
theorem dJ2_getChar_3b067_52 : decode cJ2_getChar_3b067 52 = .ok (.iand, 1) := by decide +kernel
theorem dJ2_getChar_3b067_53 : decode cJ2_getChar_3b067 53 = .ok (.getstatic 63, 3) := by decide +kernel
theorem dJ2_getChar_3b067_56 : decode cJ2_getChar_3b067 56 = .ok (.ishl, 1) := by decide +kernel
theorem dJ2_getChar_3b067_57 : decode cJ2_getChar_3b067 57 = .ok (.ior, 1) := by decide +kernel
theorem dJ2_getChar_3b067_58 : decode cJ2_getChar_3b067 58 = .ok (.i2c, 1) := by decide +kernel
theorem dJ2_getChar_3b067_59 : decode cJ2_getChar_3b067 59 = .ok (.ireturn, 1) := by decide +kernel
theorem dJ2_length_9d52b_0 : decode cJ2_length_9d52b 0 = .ok (.aload_n 0, 1) := by decide +kernel
theorem dJ2_length_9d52b_1 : decode cJ2_length_9d52b 1 = .ok (.arraylength, 1) := by decide +kernel
theorem dJ2_length_9d52b_2 : decode cJ2_length_9d52b 2 = .ok (.iconst 1, 1) := by decide +kernel
theorem dJ2_length_9d52b_3 : decode cJ2_length_9d52b 3 = .ok (.ishr, 1) := by decide +kernel
theorem dJ2_length_9d52b_4 : decode cJ2_length_9d52b 4 = .ok (.ireturn, 1) := by decide +kernel
theorem dJ2_charAt_3b067_0 : decode cJ2_charAt_3b067 0 = .ok (.iload_n 1, 1) := by decide +kernel
theorem dJ2_charAt_3b067_1 : decode cJ2_charAt_3b067 1 = .ok (.aload_n 0, 1) := by decide +kernel
theorem dJ2_charAt_3b067_2 : decode cJ2_charAt_3b067 2 = .ok (.invokestatic 67, 3) := by decide +kernel
theorem dJ2_charAt_3b067_5 : decode cJ2_charAt_3b067 5 = .ok (.aload_n 0, 1) := by decide +kernel
theorem dJ2_charAt_3b067_6 : decode cJ2_charAt_3b067 6 = .ok (.iload_n 1, 1) := by decide +kernel
theorem dJ2_charAt_3b067_7 : decode cJ2_charAt_3b067 7 = .ok (.invokestatic 71, 3) := by decide +kernel
theorem dJ2_charAt_3b067_10 : decode cJ2_charAt_3b067 10 = .ok (.ireturn, 1) := by decide +kernel
theorem dJ2_checkIndex_2214a_0 : decode cJ2_checkIndex_2214a 0 = .ok (.iload_n 0, 1) := by decide +kernel
theorem dJ2_checkIndex_2214a_1 : decode cJ2_checkIndex_2214a 1 = .ok (.aload_n 1, 1) := by decide +kernel
theorem dJ2_checkIndex_2214a_2 : decode cJ2_checkIndex_2214a 2 = .ok (.invokestatic 48, 3) := by decide +kernel
theorem dJ2_checkIndex_2214a_5 : decode cJ2_checkIndex_2214a 5 = .ok (.invokestatic 414, 3) := by decide +kernel
theorem dJ2_checkIndex_2214a_8 : decode cJ2_checkIndex_2214a 8 = .ok (.return_, 1) := by decide +kernel
theorem dJ3_checkIndex_8e157_0 : decode cJ3_checkIndex_8e157 0 = .ok (.iload_n 0, 1) := by decide +kernel
theorem dJ3_checkIndex_8e157_1 : decode cJ3_checkIndex_8e157 1 = .ok (.ifCond .lt 8, 3) := by decide +kernel
theorem dJ3_checkIndex_8e157_4 : decode cJ3_checkIndex_8e157 4 = .ok (.iload_n 0, 1) := by decide +kernel
theorem dJ3_checkIndex_8e157_5 : decode cJ3_checkIndex_8e157 5 = .ok (.iload_n 1, 1) := by decide +kernel
theorem dJ3_checkIndex_8e157_6 : decode cJ3_checkIndex_8e157 6 = .ok (.if_icmp .lt 10, 3) := by decide +kernel
theorem dJ3_checkIndex_8e157_9 : decode cJ3_checkIndex_8e157 9 = .ok (.aload_n 2, 1) := by decide +kernel
theorem dJ3_checkIndex_8e157_10 : decode cJ3_checkIndex_8e157 10 = .ok (.iload_n 0, 1) := by decide +kernel
theorem dJ3_checkIndex_8e157_11 : decode cJ3_checkIndex_8e157 11 = .ok (.iload_n 1, 1) := by decide +kernel
theorem dJ3_checkIndex_8e157_12 : decode cJ3_checkIndex_8e157 12 = .ok (.invokestatic 95, 3) := by decide +kernel
theorem dJ3_checkIndex_8e157_15 : decode cJ3_checkIndex_8e157 15 = .ok (.athrow, 1) := by decide +kernel
theorem dJ3_checkIndex_8e157_16 : decode cJ3_checkIndex_8e157 16 = .ok (.iload_n 0, 1) := by decide +kernel
theorem dJ3_checkIndex_8e157_17 : decode cJ3_checkIndex_8e157 17 = .ok (.ireturn, 1) := by decide +kernel
theorem dL_law_0 : decode cL_law 0 = .ok (.new 7, 3) := by decide +kernel
theorem dL_law_3 : decode cL_law 3 = .ok (.dup, 1) := by decide +kernel
theorem dL_law_4 : decode cL_law 4 = .ok (.invokespecial 9, 3) := by decide +kernel
theorem dL_law_7 : decode cL_law 7 = .ok (.astore_n 1, 1) := by decide +kernel
theorem dL_law_8 : decode cL_law 8 = .ok (.new 10, 3) := by decide +kernel
theorem dL_law_11 : decode cL_law 11 = .ok (.dup, 1) := by decide +kernel
theorem dL_law_12 : decode cL_law 12 = .ok (.invokespecial 12, 3) := by decide +kernel
theorem dL_law_15 : decode cL_law 15 = .ok (.astore_n 2, 1) := by decide +kernel
theorem dL_law_16 : decode cL_law 16 = .ok (.iconst 0, 1) := by decide +kernel
theorem dL_law_17 : decode cL_law 17 = .ok (.istore_n 3, 1) := by decide +kernel
theorem dL_law_18 : decode cL_law 18 = .ok (.iload_n 3, 1) := by decide +kernel
theorem dL_law_19 : decode cL_law 19 = .ok (.aload_n 0, 1) := by decide +kernel
theorem dL_law_20 : decode cL_law 20 = .ok (.arraylength, 1) := by decide +kernel
theorem dL_law_21 : decode cL_law 21 = .ok (.iconst 4, 1) := by decide +kernel
theorem dL_law_22 : decode cL_law 22 = .ok (.isub, 1) := by decide +kernel
theorem dL_law_23 : decode cL_law 23 = .ok (.if_icmp .gt 727, 3) := by decide +kernel
theorem dL_law_26 : decode cL_law 26 = .ok (.aload_n 0, 1) := by decide +kernel
theorem dL_law_27 : decode cL_law 27 = .ok (.iload_n 3, 1) := by decide +kernel
theorem dL_law_28 : decode cL_law 28 = .ok (.iaload, 1) := by decide +kernel
theorem dL_law_29 : decode cL_law 29 = .ok (.bipush 31, 2) := by decide +kernel
theorem dL_law_31 : decode cL_law 31 = .ok (.iand, 1) := by decide +kernel
theorem dL_law_32 : decode cL_law 32 = .ok (.tableswitch 712 0 24 #[116, 179, 192, 205, 238, 271, 304, 327, 360, 373, 386, 419, 432, 445, 458, 471, 504, 547, 560, 573, 596, 629, 652, 675, 698], 116) := by decide +kernel
theorem dL_law_148 : decode cL_law 148 = .ok (.aload_n 1, 1) := by decide +kernel
theorem dL_law_149 : decode cL_law 149 = .ok (.aload_n 0, 1) := by decide +kernel
theorem dL_law_150 : decode cL_law 150 = .ok (.iload_n 3, 1) := by decide +kernel
theorem dL_law_151 : decode cL_law 151 = .ok (.iconst 1, 1) := by decide +kernel
theorem dL_law_152 : decode cL_law 152 = .ok (.iadd, 1) := by decide +kernel
theorem dL_law_153 : decode cL_law 153 = .ok (.iaload, 1) := by decide +kernel
theorem dL_law_154 : decode cL_law 154 = .ok (.i2l, 1) := by decide +kernel
theorem dL_law_155 : decode cL_law 155 = .ok (.bipush 32, 2) := by decide +kernel
theorem dL_law_157 : decode cL_law 157 = .ok (.lshl, 1) := by decide +kernel
theorem dL_law_158 : decode cL_law 158 = .ok (.aload_n 0, 1) := by decide +kernel
theorem dL_law_159 : decode cL_law 159 = .ok (.iload_n 3, 1) := by decide +kernel
theorem dL_law_160 : decode cL_law 160 = .ok (.iconst 2, 1) := by decide +kernel
theorem dL_law_161 : decode cL_law 161 = .ok (.iadd, 1) := by decide +kernel
theorem dL_law_162 : decode cL_law 162 = .ok (.iaload, 1) := by decide +kernel
theorem dL_law_163 : decode cL_law 163 = .ok (.i2l, 1) := by decide +kernel
theorem dL_law_164 : decode cL_law 164 = .ok (.ldc2_w 13, 3) := by decide +kernel
theorem dL_law_167 : decode cL_law 167 = .ok (.land, 1) := by decide +kernel
theorem dL_law_168 : decode cL_law 168 = .ok (.lor, 1) := by decide +kernel
theorem dL_law_169 : decode cL_law 169 = .ok (.aload_n 0, 1) := by decide +kernel
theorem dL_law_170 : decode cL_law 170 = .ok (.iload_n 3, 1) := by decide +kernel
theorem dL_law_171 : decode cL_law 171 = .ok (.iconst 3, 1) := by decide +kernel
theorem dL_law_172 : decode cL_law 172 = .ok (.iadd, 1) := by decide +kernel
theorem dL_law_173 : decode cL_law 173 = .ok (.iaload, 1) := by decide +kernel
theorem dL_law_174 : decode cL_law 174 = .ok (.invokevirtual 15, 3) := by decide +kernel
theorem dL_law_177 : decode cL_law 177 = .ok (.aload_n 2, 1) := by decide +kernel
theorem dL_law_178 : decode cL_law 178 = .ok (.aload_n 0, 1) := by decide +kernel
theorem dL_law_179 : decode cL_law 179 = .ok (.iload_n 3, 1) := by decide +kernel
theorem dL_law_180 : decode cL_law 180 = .ok (.iconst 1, 1) := by decide +kernel
theorem dL_law_181 : decode cL_law 181 = .ok (.iadd, 1) := by decide +kernel
theorem dL_law_182 : decode cL_law 182 = .ok (.iaload, 1) := by decide +kernel
theorem dL_law_183 : decode cL_law 183 = .ok (.i2l, 1) := by decide +kernel
theorem dL_law_184 : decode cL_law 184 = .ok (.bipush 32, 2) := by decide +kernel
theorem dL_law_186 : decode cL_law 186 = .ok (.lshl, 1) := by decide +kernel
theorem dL_law_187 : decode cL_law 187 = .ok (.aload_n 0, 1) := by decide +kernel
theorem dL_law_188 : decode cL_law 188 = .ok (.iload_n 3, 1) := by decide +kernel
theorem dL_law_189 : decode cL_law 189 = .ok (.iconst 2, 1) := by decide +kernel
theorem dL_law_190 : decode cL_law 190 = .ok (.iadd, 1) := by decide +kernel
theorem dL_law_191 : decode cL_law 191 = .ok (.iaload, 1) := by decide +kernel
theorem dL_law_192 : decode cL_law 192 = .ok (.i2l, 1) := by decide +kernel
theorem dL_law_193 : decode cL_law 193 = .ok (.ldc2_w 13, 3) := by decide +kernel
theorem dL_law_196 : decode cL_law 196 = .ok (.land, 1) := by decide +kernel
theorem dL_law_197 : decode cL_law 197 = .ok (.lor, 1) := by decide +kernel
theorem dL_law_198 : decode cL_law 198 = .ok (.aload_n 0, 1) := by decide +kernel
theorem dL_law_199 : decode cL_law 199 = .ok (.iload_n 3, 1) := by decide +kernel
theorem dL_law_200 : decode cL_law 200 = .ok (.iconst 3, 1) := by decide +kernel
theorem dL_law_201 : decode cL_law 201 = .ok (.iadd, 1) := by decide +kernel
theorem dL_law_202 : decode cL_law 202 = .ok (.iaload, 1) := by decide +kernel
theorem dL_law_203 : decode cL_law 203 = .ok (.invokevirtual 19, 3) := by decide +kernel
theorem dL_law_206 : decode cL_law 206 = .ok (.if_icmp .eq 538, 3) := by decide +kernel
theorem dL_law_209 : decode cL_law 209 = .ok (.iconst 0, 1) := by decide +kernel
theorem dL_law_210 : decode cL_law 210 = .ok (.ireturn, 1) := by decide +kernel
theorem dL_law_211 : decode cL_law 211 = .ok (.aload_n 1, 1) := by decide +kernel
theorem dL_law_212 : decode cL_law 212 = .ok (.invokevirtual 20, 3) := by decide +kernel
theorem dL_law_215 : decode cL_law 215 = .ok (.aload_n 2, 1) := by decide +kernel
theorem dL_law_216 : decode cL_law 216 = .ok (.invokevirtual 24, 3) := by decide +kernel
theorem dL_law_219 : decode cL_law 219 = .ok (.if_icmp .eq 525, 3) := by decide +kernel
theorem dL_law_222 : decode cL_law 222 = .ok (.iconst 0, 1) := by decide +kernel
theorem dL_law_223 : decode cL_law 223 = .ok (.ireturn, 1) := by decide +kernel
theorem dL_law_224 : decode cL_law 224 = .ok (.aload_n 1, 1) := by decide +kernel
theorem dL_law_225 : decode cL_law 225 = .ok (.invokevirtual 25, 3) := by decide +kernel
theorem dL_law_228 : decode cL_law 228 = .ok (.aload_n 2, 1) := by decide +kernel
theorem dL_law_229 : decode cL_law 229 = .ok (.invokevirtual 28, 3) := by decide +kernel
theorem dL_law_232 : decode cL_law 232 = .ok (.if_icmp .eq 512, 3) := by decide +kernel
theorem dL_law_235 : decode cL_law 235 = .ok (.iconst 0, 1) := by decide +kernel
theorem dL_law_236 : decode cL_law 236 = .ok (.ireturn, 1) := by decide +kernel
theorem dL_law_237 : decode cL_law 237 = .ok (.aload_n 1, 1) := by decide +kernel
theorem dL_law_238 : decode cL_law 238 = .ok (.aload_n 0, 1) := by decide +kernel
theorem dL_law_239 : decode cL_law 239 = .ok (.iload_n 3, 1) := by decide +kernel
theorem dL_law_240 : decode cL_law 240 = .ok (.iconst 1, 1) := by decide +kernel
theorem dL_law_241 : decode cL_law 241 = .ok (.iadd, 1) := by decide +kernel
theorem dL_law_242 : decode cL_law 242 = .ok (.iaload, 1) := by decide +kernel
theorem dL_law_243 : decode cL_law 243 = .ok (.aload_n 0, 1) := by decide +kernel
theorem dL_law_244 : decode cL_law 244 = .ok (.iload_n 3, 1) := by decide +kernel
theorem dL_law_245 : decode cL_law 245 = .ok (.iconst 2, 1) := by decide +kernel
theorem dL_law_246 : decode cL_law 246 = .ok (.iadd, 1) := by decide +kernel
theorem dL_law_247 : decode cL_law 247 = .ok (.iaload, 1) := by decide +kernel
theorem dL_law_248 : decode cL_law 248 = .ok (.invokevirtual 29, 3) := by decide +kernel
theorem dL_law_251 : decode cL_law 251 = .ok (.aload_n 2, 1) := by decide +kernel
theorem dL_law_252 : decode cL_law 252 = .ok (.aload_n 0, 1) := by decide +kernel
theorem dL_law_253 : decode cL_law 253 = .ok (.iload_n 3, 1) := by decide +kernel
theorem dL_law_254 : decode cL_law 254 = .ok (.iconst 1, 1) := by decide +kernel
theorem dL_law_255 : decode cL_law 255 = .ok (.iadd, 1) := by decide +kernel
theorem dL_law_256 : decode cL_law 256 = .ok (.iaload, 1) := by decide +kernel
theorem dL_law_257 : decode cL_law 257 = .ok (.aload_n 0, 1) := by decide +kernel
theorem dL_law_258 : decode cL_law 258 = .ok (.iload_n 3, 1) := by decide +kernel
theorem dL_law_259 : decode cL_law 259 = .ok (.iconst 2, 1) := by decide +kernel
theorem dL_law_260 : decode cL_law 260 = .ok (.iadd, 1) := by decide +kernel
theorem dL_law_261 : decode cL_law 261 = .ok (.iaload, 1) := by decide +kernel
theorem dL_law_262 : decode cL_law 262 = .ok (.invokevirtual 33, 3) := by decide +kernel
theorem dL_law_265 : decode cL_law 265 = .ok (.if_icmp .eq 479, 3) := by decide +kernel
theorem dL_law_268 : decode cL_law 268 = .ok (.iconst 0, 1) := by decide +kernel
theorem dL_law_269 : decode cL_law 269 = .ok (.ireturn, 1) := by decide +kernel
theorem dL_law_270 : decode cL_law 270 = .ok (.aload_n 1, 1) := by decide +kernel
theorem dL_law_271 : decode cL_law 271 = .ok (.aload_n 0, 1) := by decide +kernel
theorem dL_law_272 : decode cL_law 272 = .ok (.iload_n 3, 1) := by decide +kernel
theorem dL_law_273 : decode cL_law 273 = .ok (.iconst 1, 1) := by decide +kernel
theorem dL_law_274 : decode cL_law 274 = .ok (.iadd, 1) := by decide +kernel
theorem dL_law_275 : decode cL_law 275 = .ok (.iaload, 1) := by decide +kernel
theorem dL_law_276 : decode cL_law 276 = .ok (.aload_n 0, 1) := by decide +kernel
theorem dL_law_277 : decode cL_law 277 = .ok (.iload_n 3, 1) := by decide +kernel
theorem dL_law_278 : decode cL_law 278 = .ok (.iconst 2, 1) := by decide +kernel
theorem dL_law_279 : decode cL_law 279 = .ok (.iadd, 1) := by decide +kernel
theorem dL_law_280 : decode cL_law 280 = .ok (.iaload, 1) := by decide +kernel
theorem dL_law_281 : decode cL_law 281 = .ok (.invokevirtual 34, 3) := by decide +kernel
theorem dL_law_284 : decode cL_law 284 = .ok (.aload_n 2, 1) := by decide +kernel
theorem dL_law_285 : decode cL_law 285 = .ok (.aload_n 0, 1) := by decide +kernel
theorem dL_law_286 : decode cL_law 286 = .ok (.iload_n 3, 1) := by decide +kernel
theorem dL_law_287 : decode cL_law 287 = .ok (.iconst 1, 1) := by decide +kernel
theorem dL_law_288 : decode cL_law 288 = .ok (.iadd, 1) := by decide +kernel
theorem dL_law_289 : decode cL_law 289 = .ok (.iaload, 1) := by decide +kernel
theorem dL_law_290 : decode cL_law 290 = .ok (.aload_n 0, 1) := by decide +kernel
theorem dL_law_291 : decode cL_law 291 = .ok (.iload_n 3, 1) := by decide +kernel
theorem dL_law_292 : decode cL_law 292 = .ok (.iconst 2, 1) := by decide +kernel
theorem dL_law_293 : decode cL_law 293 = .ok (.iadd, 1) := by decide +kernel
theorem dL_law_294 : decode cL_law 294 = .ok (.iaload, 1) := by decide +kernel
theorem dL_law_295 : decode cL_law 295 = .ok (.invokevirtual 37, 3) := by decide +kernel
theorem dL_law_298 : decode cL_law 298 = .ok (.if_icmp .eq 446, 3) := by decide +kernel
theorem dL_law_301 : decode cL_law 301 = .ok (.iconst 0, 1) := by decide +kernel
theorem dL_law_302 : decode cL_law 302 = .ok (.ireturn, 1) := by decide +kernel
theorem dL_law_303 : decode cL_law 303 = .ok (.aload_n 1, 1) := by decide +kernel
theorem dL_law_304 : decode cL_law 304 = .ok (.aload_n 0, 1) := by decide +kernel
theorem dL_law_305 : decode cL_law 305 = .ok (.iload_n 3, 1) := by decide +kernel
theorem dL_law_306 : decode cL_law 306 = .ok (.iconst 1, 1) := by decide +kernel
theorem dL_law_307 : decode cL_law 307 = .ok (.iadd, 1) := by decide +kernel
theorem dL_law_308 : decode cL_law 308 = .ok (.iaload, 1) := by decide +kernel
theorem dL_law_309 : decode cL_law 309 = .ok (.aload_n 0, 1) := by decide +kernel
theorem dL_law_310 : decode cL_law 310 = .ok (.iload_n 3, 1) := by decide +kernel
theorem dL_law_311 : decode cL_law 311 = .ok (.iconst 2, 1) := by decide +kernel
theorem dL_law_312 : decode cL_law 312 = .ok (.iadd, 1) := by decide +kernel
theorem dL_law_313 : decode cL_law 313 = .ok (.iaload, 1) := by decide +kernel
theorem dL_law_314 : decode cL_law 314 = .ok (.invokevirtual 38, 3) := by decide +kernel
theorem dL_law_317 : decode cL_law 317 = .ok (.aload_n 2, 1) := by decide +kernel
theorem dL_law_318 : decode cL_law 318 = .ok (.aload_n 0, 1) := by decide +kernel
theorem dL_law_319 : decode cL_law 319 = .ok (.iload_n 3, 1) := by decide +kernel
theorem dL_law_320 : decode cL_law 320 = .ok (.iconst 1, 1) := by decide +kernel
theorem dL_law_321 : decode cL_law 321 = .ok (.iadd, 1) := by decide +kernel
theorem dL_law_322 : decode cL_law 322 = .ok (.iaload, 1) := by decide +kernel
theorem dL_law_323 : decode cL_law 323 = .ok (.aload_n 0, 1) := by decide +kernel
theorem dL_law_324 : decode cL_law 324 = .ok (.iload_n 3, 1) := by decide +kernel
theorem dL_law_325 : decode cL_law 325 = .ok (.iconst 2, 1) := by decide +kernel
theorem dL_law_326 : decode cL_law 326 = .ok (.iadd, 1) := by decide +kernel
theorem dL_law_327 : decode cL_law 327 = .ok (.iaload, 1) := by decide +kernel
theorem dL_law_328 : decode cL_law 328 = .ok (.invokevirtual 41, 3) := by decide +kernel
theorem dL_law_331 : decode cL_law 331 = .ok (.if_icmp .eq 413, 3) := by decide +kernel
theorem dL_law_334 : decode cL_law 334 = .ok (.iconst 0, 1) := by decide +kernel
theorem dL_law_335 : decode cL_law 335 = .ok (.ireturn, 1) := by decide +kernel
theorem dL_law_336 : decode cL_law 336 = .ok (.aload_n 1, 1) := by decide +kernel
theorem dL_law_337 : decode cL_law 337 = .ok (.aload_n 0, 1) := by decide +kernel
theorem dL_law_338 : decode cL_law 338 = .ok (.iload_n 3, 1) := by decide +kernel
theorem dL_law_339 : decode cL_law 339 = .ok (.iconst 1, 1) := by decide +kernel
theorem dL_law_340 : decode cL_law 340 = .ok (.iadd, 1) := by decide +kernel
theorem dL_law_341 : decode cL_law 341 = .ok (.iaload, 1) := by decide +kernel
theorem dL_law_342 : decode cL_law 342 = .ok (.invokevirtual 42, 3) := by decide +kernel
theorem dL_law_345 : decode cL_law 345 = .ok (.aload_n 2, 1) := by decide +kernel
theorem dL_law_346 : decode cL_law 346 = .ok (.aload_n 0, 1) := by decide +kernel
theorem dL_law_347 : decode cL_law 347 = .ok (.iload_n 3, 1) := by decide +kernel
theorem dL_law_348 : decode cL_law 348 = .ok (.iconst 1, 1) := by decide +kernel
theorem dL_law_349 : decode cL_law 349 = .ok (.iadd, 1) := by decide +kernel
theorem dL_law_350 : decode cL_law 350 = .ok (.iaload, 1) := by decide +kernel
theorem dL_law_351 : decode cL_law 351 = .ok (.invokevirtual 46, 3) := by decide +kernel
theorem dL_law_354 : decode cL_law 354 = .ok (.if_icmp .eq 390, 3) := by decide +kernel
theorem dL_law_357 : decode cL_law 357 = .ok (.iconst 0, 1) := by decide +kernel
theorem dL_law_358 : decode cL_law 358 = .ok (.ireturn, 1) := by decide +kernel
theorem dL_law_359 : decode cL_law 359 = .ok (.aload_n 1, 1) := by decide +kernel
theorem dL_law_360 : decode cL_law 360 = .ok (.aload_n 0, 1) := by decide +kernel
theorem dL_law_361 : decode cL_law 361 = .ok (.iload_n 3, 1) := by decide +kernel
theorem dL_law_362 : decode cL_law 362 = .ok (.iconst 1, 1) := by decide +kernel
theorem dL_law_363 : decode cL_law 363 = .ok (.iadd, 1) := by decide +kernel
theorem dL_law_364 : decode cL_law 364 = .ok (.iaload, 1) := by decide +kernel
theorem dL_law_365 : decode cL_law 365 = .ok (.aload_n 0, 1) := by decide +kernel
theorem dL_law_366 : decode cL_law 366 = .ok (.iload_n 3, 1) := by decide +kernel
theorem dL_law_367 : decode cL_law 367 = .ok (.iconst 2, 1) := by decide +kernel
theorem dL_law_368 : decode cL_law 368 = .ok (.iadd, 1) := by decide +kernel
theorem dL_law_369 : decode cL_law 369 = .ok (.iaload, 1) := by decide +kernel
theorem dL_law_370 : decode cL_law 370 = .ok (.invokevirtual 47, 3) := by decide +kernel
theorem dL_law_373 : decode cL_law 373 = .ok (.aload_n 2, 1) := by decide +kernel
theorem dL_law_374 : decode cL_law 374 = .ok (.aload_n 0, 1) := by decide +kernel
theorem dL_law_375 : decode cL_law 375 = .ok (.iload_n 3, 1) := by decide +kernel
theorem dL_law_376 : decode cL_law 376 = .ok (.iconst 1, 1) := by decide +kernel
theorem dL_law_377 : decode cL_law 377 = .ok (.iadd, 1) := by decide +kernel
theorem dL_law_378 : decode cL_law 378 = .ok (.iaload, 1) := by decide +kernel
theorem dL_law_379 : decode cL_law 379 = .ok (.aload_n 0, 1) := by decide +kernel
theorem dL_law_380 : decode cL_law 380 = .ok (.iload_n 3, 1) := by decide +kernel
theorem dL_law_381 : decode cL_law 381 = .ok (.iconst 2, 1) := by decide +kernel
theorem dL_law_382 : decode cL_law 382 = .ok (.iadd, 1) := by decide +kernel
theorem dL_law_383 : decode cL_law 383 = .ok (.iaload, 1) := by decide +kernel
theorem dL_law_384 : decode cL_law 384 = .ok (.invokevirtual 50, 3) := by decide +kernel
theorem dL_law_387 : decode cL_law 387 = .ok (.if_icmp .eq 357, 3) := by decide +kernel
theorem dL_law_390 : decode cL_law 390 = .ok (.iconst 0, 1) := by decide +kernel
theorem dL_law_391 : decode cL_law 391 = .ok (.ireturn, 1) := by decide +kernel
theorem dL_law_392 : decode cL_law 392 = .ok (.aload_n 1, 1) := by decide +kernel
theorem dL_law_393 : decode cL_law 393 = .ok (.invokevirtual 51, 3) := by decide +kernel
theorem dL_law_396 : decode cL_law 396 = .ok (.aload_n 2, 1) := by decide +kernel
theorem dL_law_397 : decode cL_law 397 = .ok (.invokevirtual 54, 3) := by decide +kernel
theorem dL_law_400 : decode cL_law 400 = .ok (.if_icmp .eq 344, 3) := by decide +kernel
theorem dL_law_403 : decode cL_law 403 = .ok (.iconst 0, 1) := by decide +kernel
theorem dL_law_404 : decode cL_law 404 = .ok (.ireturn, 1) := by decide +kernel
theorem dL_law_405 : decode cL_law 405 = .ok (.aload_n 1, 1) := by decide +kernel
theorem dL_law_406 : decode cL_law 406 = .ok (.invokevirtual 55, 3) := by decide +kernel
theorem dL_law_409 : decode cL_law 409 = .ok (.aload_n 2, 1) := by decide +kernel
theorem dL_law_410 : decode cL_law 410 = .ok (.invokevirtual 58, 3) := by decide +kernel
theorem dL_law_413 : decode cL_law 413 = .ok (.if_icmp .eq 331, 3) := by decide +kernel
theorem dL_law_416 : decode cL_law 416 = .ok (.iconst 0, 1) := by decide +kernel
theorem dL_law_417 : decode cL_law 417 = .ok (.ireturn, 1) := by decide +kernel
theorem dL_law_418 : decode cL_law 418 = .ok (.aload_n 1, 1) := by decide +kernel
theorem dL_law_419 : decode cL_law 419 = .ok (.aload_n 0, 1) := by decide +kernel
theorem dL_law_420 : decode cL_law 420 = .ok (.iload_n 3, 1) := by decide +kernel
theorem dL_law_421 : decode cL_law 421 = .ok (.iconst 1, 1) := by decide +kernel
theorem dL_law_422 : decode cL_law 422 = .ok (.iadd, 1) := by decide +kernel
theorem dL_law_423 : decode cL_law 423 = .ok (.iaload, 1) := by decide +kernel
theorem dL_law_424 : decode cL_law 424 = .ok (.aload_n 0, 1) := by decide +kernel
theorem dL_law_425 : decode cL_law 425 = .ok (.iload_n 3, 1) := by decide +kernel
theorem dL_law_426 : decode cL_law 426 = .ok (.iconst 2, 1) := by decide +kernel
theorem dL_law_427 : decode cL_law 427 = .ok (.iadd, 1) := by decide +kernel
theorem dL_law_428 : decode cL_law 428 = .ok (.iaload, 1) := by decide +kernel
theorem dL_law_429 : decode cL_law 429 = .ok (.invokevirtual 59, 3) := by decide +kernel
theorem dL_law_432 : decode cL_law 432 = .ok (.aload_n 2, 1) := by decide +kernel
theorem dL_law_433 : decode cL_law 433 = .ok (.aload_n 0, 1) := by decide +kernel
theorem dL_law_434 : decode cL_law 434 = .ok (.iload_n 3, 1) := by decide +kernel
theorem dL_law_435 : decode cL_law 435 = .ok (.iconst 1, 1) := by decide +kernel
theorem dL_law_436 : decode cL_law 436 = .ok (.iadd, 1) := by decide +kernel
theorem dL_law_437 : decode cL_law 437 = .ok (.iaload, 1) := by decide +kernel
theorem dL_law_438 : decode cL_law 438 = .ok (.aload_n 0, 1) := by decide +kernel
theorem dL_law_439 : decode cL_law 439 = .ok (.iload_n 3, 1) := by decide +kernel
theorem dL_law_440 : decode cL_law 440 = .ok (.iconst 2, 1) := by decide +kernel
theorem dL_law_441 : decode cL_law 441 = .ok (.iadd, 1) := by decide +kernel
theorem dL_law_442 : decode cL_law 442 = .ok (.iaload, 1) := by decide +kernel
theorem dL_law_443 : decode cL_law 443 = .ok (.invokevirtual 62, 3) := by decide +kernel
theorem dL_law_446 : decode cL_law 446 = .ok (.if_icmp .eq 298, 3) := by decide +kernel
theorem dL_law_449 : decode cL_law 449 = .ok (.iconst 0, 1) := by decide +kernel
theorem dL_law_450 : decode cL_law 450 = .ok (.ireturn, 1) := by decide +kernel
theorem dL_law_451 : decode cL_law 451 = .ok (.aload_n 1, 1) := by decide +kernel
theorem dL_law_452 : decode cL_law 452 = .ok (.invokevirtual 63, 3) := by decide +kernel
theorem dL_law_455 : decode cL_law 455 = .ok (.aload_n 2, 1) := by decide +kernel
theorem dL_law_456 : decode cL_law 456 = .ok (.invokevirtual 66, 3) := by decide +kernel
theorem dL_law_459 : decode cL_law 459 = .ok (.if_icmp .eq 285, 3) := by decide +kernel
theorem dL_law_462 : decode cL_law 462 = .ok (.iconst 0, 1) := by decide +kernel
theorem dL_law_463 : decode cL_law 463 = .ok (.ireturn, 1) := by decide +kernel
theorem dL_law_464 : decode cL_law 464 = .ok (.aload_n 1, 1) := by decide +kernel
theorem dL_law_465 : decode cL_law 465 = .ok (.invokevirtual 67, 3) := by decide +kernel
theorem dL_law_468 : decode cL_law 468 = .ok (.aload_n 2, 1) := by decide +kernel
theorem dL_law_469 : decode cL_law 469 = .ok (.invokevirtual 70, 3) := by decide +kernel
theorem dL_law_472 : decode cL_law 472 = .ok (.if_icmp .eq 272, 3) := by decide +kernel
theorem dL_law_475 : decode cL_law 475 = .ok (.iconst 0, 1) := by decide +kernel
theorem dL_law_476 : decode cL_law 476 = .ok (.ireturn, 1) := by decide +kernel
theorem dL_law_477 : decode cL_law 477 = .ok (.aload_n 1, 1) := by decide +kernel
theorem dL_law_478 : decode cL_law 478 = .ok (.invokevirtual 71, 3) := by decide +kernel
theorem dL_law_481 : decode cL_law 481 = .ok (.aload_n 2, 1) := by decide +kernel
theorem dL_law_482 : decode cL_law 482 = .ok (.invokevirtual 74, 3) := by decide +kernel
theorem dL_law_485 : decode cL_law 485 = .ok (.if_icmp .eq 259, 3) := by decide +kernel
theorem dL_law_488 : decode cL_law 488 = .ok (.iconst 0, 1) := by decide +kernel
theorem dL_law_489 : decode cL_law 489 = .ok (.ireturn, 1) := by decide +kernel
theorem dL_law_490 : decode cL_law 490 = .ok (.aload_n 1, 1) := by decide +kernel
theorem dL_law_491 : decode cL_law 491 = .ok (.invokevirtual 75, 3) := by decide +kernel
theorem dL_law_494 : decode cL_law 494 = .ok (.aload_n 2, 1) := by decide +kernel
theorem dL_law_495 : decode cL_law 495 = .ok (.invokevirtual 78, 3) := by decide +kernel
theorem dL_law_498 : decode cL_law 498 = .ok (.if_icmp .eq 246, 3) := by decide +kernel
theorem dL_law_501 : decode cL_law 501 = .ok (.iconst 0, 1) := by decide +kernel
theorem dL_law_502 : decode cL_law 502 = .ok (.ireturn, 1) := by decide +kernel
theorem dL_law_503 : decode cL_law 503 = .ok (.aload_n 1, 1) := by decide +kernel
theorem dL_law_504 : decode cL_law 504 = .ok (.aload_n 0, 1) := by decide +kernel
theorem dL_law_505 : decode cL_law 505 = .ok (.iload_n 3, 1) := by decide +kernel
theorem dL_law_506 : decode cL_law 506 = .ok (.iconst 1, 1) := by decide +kernel
theorem dL_law_507 : decode cL_law 507 = .ok (.iadd, 1) := by decide +kernel
theorem dL_law_508 : decode cL_law 508 = .ok (.iaload, 1) := by decide +kernel
theorem dL_law_509 : decode cL_law 509 = .ok (.aload_n 0, 1) := by decide +kernel
theorem dL_law_510 : decode cL_law 510 = .ok (.iload_n 3, 1) := by decide +kernel
theorem dL_law_511 : decode cL_law 511 = .ok (.iconst 2, 1) := by decide +kernel
theorem dL_law_512 : decode cL_law 512 = .ok (.iadd, 1) := by decide +kernel
theorem dL_law_513 : decode cL_law 513 = .ok (.iaload, 1) := by decide +kernel
theorem dL_law_514 : decode cL_law 514 = .ok (.invokevirtual 79, 3) := by decide +kernel
theorem dL_law_517 : decode cL_law 517 = .ok (.aload_n 2, 1) := by decide +kernel
theorem dL_law_518 : decode cL_law 518 = .ok (.aload_n 0, 1) := by decide +kernel
theorem dL_law_519 : decode cL_law 519 = .ok (.iload_n 3, 1) := by decide +kernel
theorem dL_law_520 : decode cL_law 520 = .ok (.iconst 1, 1) := by decide +kernel
theorem dL_law_521 : decode cL_law 521 = .ok (.iadd, 1) := by decide +kernel
theorem dL_law_522 : decode cL_law 522 = .ok (.iaload, 1) := by decide +kernel
theorem dL_law_523 : decode cL_law 523 = .ok (.aload_n 0, 1) := by decide +kernel
theorem dL_law_524 : decode cL_law 524 = .ok (.iload_n 3, 1) := by decide +kernel
theorem dL_law_525 : decode cL_law 525 = .ok (.iconst 2, 1) := by decide +kernel
theorem dL_law_526 : decode cL_law 526 = .ok (.iadd, 1) := by decide +kernel
theorem dL_law_527 : decode cL_law 527 = .ok (.iaload, 1) := by decide +kernel
theorem dL_law_528 : decode cL_law 528 = .ok (.invokevirtual 82, 3) := by decide +kernel
theorem dL_law_531 : decode cL_law 531 = .ok (.if_icmp .eq 213, 3) := by decide +kernel
theorem dL_law_534 : decode cL_law 534 = .ok (.iconst 0, 1) := by decide +kernel
theorem dL_law_535 : decode cL_law 535 = .ok (.ireturn, 1) := by decide +kernel
theorem dL_law_536 : decode cL_law 536 = .ok (.aload_n 1, 1) := by decide +kernel
theorem dL_law_537 : decode cL_law 537 = .ok (.aload_n 0, 1) := by decide +kernel
theorem dL_law_538 : decode cL_law 538 = .ok (.iload_n 3, 1) := by decide +kernel
theorem dL_law_539 : decode cL_law 539 = .ok (.iconst 1, 1) := by decide +kernel
theorem dL_law_540 : decode cL_law 540 = .ok (.iadd, 1) := by decide +kernel
theorem dL_law_541 : decode cL_law 541 = .ok (.iaload, 1) := by decide +kernel
theorem dL_law_542 : decode cL_law 542 = .ok (.aload_n 0, 1) := by decide +kernel
theorem dL_law_543 : decode cL_law 543 = .ok (.iload_n 3, 1) := by decide +kernel
theorem dL_law_544 : decode cL_law 544 = .ok (.iconst 2, 1) := by decide +kernel
theorem dL_law_545 : decode cL_law 545 = .ok (.iadd, 1) := by decide +kernel
theorem dL_law_546 : decode cL_law 546 = .ok (.iaload, 1) := by decide +kernel
theorem dL_law_547 : decode cL_law 547 = .ok (.aload_n 0, 1) := by decide +kernel
theorem dL_law_548 : decode cL_law 548 = .ok (.iload_n 3, 1) := by decide +kernel
theorem dL_law_549 : decode cL_law 549 = .ok (.iconst 3, 1) := by decide +kernel
theorem dL_law_550 : decode cL_law 550 = .ok (.iadd, 1) := by decide +kernel
theorem dL_law_551 : decode cL_law 551 = .ok (.iaload, 1) := by decide +kernel
theorem dL_law_552 : decode cL_law 552 = .ok (.invokevirtual 83, 3) := by decide +kernel
theorem dL_law_555 : decode cL_law 555 = .ok (.aload_n 2, 1) := by decide +kernel
theorem dL_law_556 : decode cL_law 556 = .ok (.aload_n 0, 1) := by decide +kernel
theorem dL_law_557 : decode cL_law 557 = .ok (.iload_n 3, 1) := by decide +kernel
theorem dL_law_558 : decode cL_law 558 = .ok (.iconst 1, 1) := by decide +kernel
theorem dL_law_559 : decode cL_law 559 = .ok (.iadd, 1) := by decide +kernel
theorem dL_law_560 : decode cL_law 560 = .ok (.iaload, 1) := by decide +kernel
theorem dL_law_561 : decode cL_law 561 = .ok (.aload_n 0, 1) := by decide +kernel
theorem dL_law_562 : decode cL_law 562 = .ok (.iload_n 3, 1) := by decide +kernel
theorem dL_law_563 : decode cL_law 563 = .ok (.iconst 2, 1) := by decide +kernel
theorem dL_law_564 : decode cL_law 564 = .ok (.iadd, 1) := by decide +kernel
theorem dL_law_565 : decode cL_law 565 = .ok (.iaload, 1) := by decide +kernel
theorem dL_law_566 : decode cL_law 566 = .ok (.aload_n 0, 1) := by decide +kernel
theorem dL_law_567 : decode cL_law 567 = .ok (.iload_n 3, 1) := by decide +kernel
theorem dL_law_568 : decode cL_law 568 = .ok (.iconst 3, 1) := by decide +kernel
theorem dL_law_569 : decode cL_law 569 = .ok (.iadd, 1) := by decide +kernel
theorem dL_law_570 : decode cL_law 570 = .ok (.iaload, 1) := by decide +kernel
theorem dL_law_571 : decode cL_law 571 = .ok (.invokevirtual 87, 3) := by decide +kernel
theorem dL_law_574 : decode cL_law 574 = .ok (.if_icmp .eq 170, 3) := by decide +kernel
theorem dL_law_577 : decode cL_law 577 = .ok (.iconst 0, 1) := by decide +kernel
theorem dL_law_578 : decode cL_law 578 = .ok (.ireturn, 1) := by decide +kernel
theorem dL_law_579 : decode cL_law 579 = .ok (.aload_n 1, 1) := by decide +kernel
theorem dL_law_580 : decode cL_law 580 = .ok (.invokevirtual 88, 3) := by decide +kernel
theorem dL_law_583 : decode cL_law 583 = .ok (.aload_n 2, 1) := by decide +kernel
theorem dL_law_584 : decode cL_law 584 = .ok (.invokevirtual 91, 3) := by decide +kernel
theorem dL_law_587 : decode cL_law 587 = .ok (.if_icmp .eq 157, 3) := by decide +kernel
theorem dL_law_590 : decode cL_law 590 = .ok (.iconst 0, 1) := by decide +kernel
theorem dL_law_591 : decode cL_law 591 = .ok (.ireturn, 1) := by decide +kernel
theorem dL_law_592 : decode cL_law 592 = .ok (.aload_n 1, 1) := by decide +kernel
theorem dL_law_593 : decode cL_law 593 = .ok (.invokevirtual 92, 3) := by decide +kernel
theorem dL_law_596 : decode cL_law 596 = .ok (.aload_n 2, 1) := by decide +kernel
theorem dL_law_597 : decode cL_law 597 = .ok (.invokevirtual 95, 3) := by decide +kernel
theorem dL_law_600 : decode cL_law 600 = .ok (.if_icmp .eq 144, 3) := by decide +kernel
theorem dL_law_603 : decode cL_law 603 = .ok (.iconst 0, 1) := by decide +kernel
theorem dL_law_604 : decode cL_law 604 = .ok (.ireturn, 1) := by decide +kernel
theorem dL_law_605 : decode cL_law 605 = .ok (.aload_n 1, 1) := by decide +kernel
theorem dL_law_606 : decode cL_law 606 = .ok (.aload_n 0, 1) := by decide +kernel
theorem dL_law_607 : decode cL_law 607 = .ok (.iload_n 3, 1) := by decide +kernel
theorem dL_law_608 : decode cL_law 608 = .ok (.iconst 1, 1) := by decide +kernel
theorem dL_law_609 : decode cL_law 609 = .ok (.iadd, 1) := by decide +kernel
theorem dL_law_610 : decode cL_law 610 = .ok (.iaload, 1) := by decide +kernel
theorem dL_law_611 : decode cL_law 611 = .ok (.invokevirtual 96, 3) := by decide +kernel
theorem dL_law_614 : decode cL_law 614 = .ok (.aload_n 2, 1) := by decide +kernel
theorem dL_law_615 : decode cL_law 615 = .ok (.aload_n 0, 1) := by decide +kernel
theorem dL_law_616 : decode cL_law 616 = .ok (.iload_n 3, 1) := by decide +kernel
theorem dL_law_617 : decode cL_law 617 = .ok (.iconst 1, 1) := by decide +kernel
theorem dL_law_618 : decode cL_law 618 = .ok (.iadd, 1) := by decide +kernel
theorem dL_law_619 : decode cL_law 619 = .ok (.iaload, 1) := by decide +kernel
theorem dL_law_620 : decode cL_law 620 = .ok (.invokevirtual 99, 3) := by decide +kernel
theorem dL_law_623 : decode cL_law 623 = .ok (.if_icmp .eq 121, 3) := by decide +kernel
theorem dL_law_626 : decode cL_law 626 = .ok (.iconst 0, 1) := by decide +kernel
theorem dL_law_627 : decode cL_law 627 = .ok (.ireturn, 1) := by decide +kernel
theorem dL_law_628 : decode cL_law 628 = .ok (.aload_n 1, 1) := by decide +kernel
theorem dL_law_629 : decode cL_law 629 = .ok (.aload_n 0, 1) := by decide +kernel
theorem dL_law_630 : decode cL_law 630 = .ok (.iload_n 3, 1) := by decide +kernel
theorem dL_law_631 : decode cL_law 631 = .ok (.iconst 1, 1) := by decide +kernel
theorem dL_law_632 : decode cL_law 632 = .ok (.iadd, 1) := by decide +kernel
theorem dL_law_633 : decode cL_law 633 = .ok (.iaload, 1) := by decide +kernel
theorem dL_law_634 : decode cL_law 634 = .ok (.aload_n 0, 1) := by decide +kernel
theorem dL_law_635 : decode cL_law 635 = .ok (.iload_n 3, 1) := by decide +kernel
theorem dL_law_636 : decode cL_law 636 = .ok (.iconst 2, 1) := by decide +kernel
theorem dL_law_637 : decode cL_law 637 = .ok (.iadd, 1) := by decide +kernel
theorem dL_law_638 : decode cL_law 638 = .ok (.iaload, 1) := by decide +kernel
theorem dL_law_639 : decode cL_law 639 = .ok (.invokevirtual 100, 3) := by decide +kernel
theorem dL_law_642 : decode cL_law 642 = .ok (.aload_n 2, 1) := by decide +kernel
theorem dL_law_643 : decode cL_law 643 = .ok (.aload_n 0, 1) := by decide +kernel
theorem dL_law_644 : decode cL_law 644 = .ok (.iload_n 3, 1) := by decide +kernel
theorem dL_law_645 : decode cL_law 645 = .ok (.iconst 1, 1) := by decide +kernel
theorem dL_law_646 : decode cL_law 646 = .ok (.iadd, 1) := by decide +kernel
theorem dL_law_647 : decode cL_law 647 = .ok (.iaload, 1) := by decide +kernel
theorem dL_law_648 : decode cL_law 648 = .ok (.aload_n 0, 1) := by decide +kernel
theorem dL_law_649 : decode cL_law 649 = .ok (.iload_n 3, 1) := by decide +kernel
theorem dL_law_650 : decode cL_law 650 = .ok (.iconst 2, 1) := by decide +kernel
theorem dL_law_651 : decode cL_law 651 = .ok (.iadd, 1) := by decide +kernel
theorem dL_law_652 : decode cL_law 652 = .ok (.iaload, 1) := by decide +kernel
theorem dL_law_653 : decode cL_law 653 = .ok (.invokevirtual 103, 3) := by decide +kernel
theorem dL_law_656 : decode cL_law 656 = .ok (.if_icmp .eq 88, 3) := by decide +kernel
theorem dL_law_659 : decode cL_law 659 = .ok (.iconst 0, 1) := by decide +kernel
theorem dL_law_660 : decode cL_law 660 = .ok (.ireturn, 1) := by decide +kernel
theorem dL_law_661 : decode cL_law 661 = .ok (.aload_n 1, 1) := by decide +kernel
theorem dL_law_662 : decode cL_law 662 = .ok (.aload_n 0, 1) := by decide +kernel
theorem dL_law_663 : decode cL_law 663 = .ok (.iload_n 3, 1) := by decide +kernel
theorem dL_law_664 : decode cL_law 664 = .ok (.iconst 1, 1) := by decide +kernel
theorem dL_law_665 : decode cL_law 665 = .ok (.iadd, 1) := by decide +kernel
theorem dL_law_666 : decode cL_law 666 = .ok (.iaload, 1) := by decide +kernel
theorem dL_law_667 : decode cL_law 667 = .ok (.invokevirtual 104, 3) := by decide +kernel
theorem dL_law_670 : decode cL_law 670 = .ok (.aload_n 2, 1) := by decide +kernel
theorem dL_law_671 : decode cL_law 671 = .ok (.aload_n 0, 1) := by decide +kernel
theorem dL_law_672 : decode cL_law 672 = .ok (.iload_n 3, 1) := by decide +kernel
theorem dL_law_673 : decode cL_law 673 = .ok (.iconst 1, 1) := by decide +kernel
theorem dL_law_674 : decode cL_law 674 = .ok (.iadd, 1) := by decide +kernel
theorem dL_law_675 : decode cL_law 675 = .ok (.iaload, 1) := by decide +kernel
theorem dL_law_676 : decode cL_law 676 = .ok (.invokevirtual 107, 3) := by decide +kernel
theorem dL_law_679 : decode cL_law 679 = .ok (.if_icmp .eq 65, 3) := by decide +kernel
theorem dL_law_682 : decode cL_law 682 = .ok (.iconst 0, 1) := by decide +kernel
theorem dL_law_683 : decode cL_law 683 = .ok (.ireturn, 1) := by decide +kernel
theorem dL_law_684 : decode cL_law 684 = .ok (.aload_n 1, 1) := by decide +kernel
theorem dL_law_685 : decode cL_law 685 = .ok (.aload_n 0, 1) := by decide +kernel
theorem dL_law_686 : decode cL_law 686 = .ok (.iload_n 3, 1) := by decide +kernel
theorem dL_law_687 : decode cL_law 687 = .ok (.iconst 1, 1) := by decide +kernel
theorem dL_law_688 : decode cL_law 688 = .ok (.iadd, 1) := by decide +kernel
theorem dL_law_689 : decode cL_law 689 = .ok (.iaload, 1) := by decide +kernel
theorem dL_law_690 : decode cL_law 690 = .ok (.invokevirtual 108, 3) := by decide +kernel
theorem dL_law_693 : decode cL_law 693 = .ok (.aload_n 2, 1) := by decide +kernel
theorem dL_law_694 : decode cL_law 694 = .ok (.aload_n 0, 1) := by decide +kernel
theorem dL_law_695 : decode cL_law 695 = .ok (.iload_n 3, 1) := by decide +kernel
theorem dL_law_696 : decode cL_law 696 = .ok (.iconst 1, 1) := by decide +kernel
theorem dL_law_697 : decode cL_law 697 = .ok (.iadd, 1) := by decide +kernel
theorem dL_law_698 : decode cL_law 698 = .ok (.iaload, 1) := by decide +kernel
theorem dL_law_699 : decode cL_law 699 = .ok (.invokevirtual 111, 3) := by decide +kernel
theorem dL_law_702 : decode cL_law 702 = .ok (.if_icmp .eq 42, 3) := by decide +kernel
theorem dL_law_705 : decode cL_law 705 = .ok (.iconst 0, 1) := by decide +kernel
theorem dL_law_706 : decode cL_law 706 = .ok (.ireturn, 1) := by decide +kernel
theorem dL_law_707 : decode cL_law 707 = .ok (.aload_n 1, 1) := by decide +kernel
theorem dL_law_708 : decode cL_law 708 = .ok (.aload_n 0, 1) := by decide +kernel
theorem dL_law_709 : decode cL_law 709 = .ok (.iload_n 3, 1) := by decide +kernel
theorem dL_law_710 : decode cL_law 710 = .ok (.iconst 1, 1) := by decide +kernel
theorem dL_law_711 : decode cL_law 711 = .ok (.iadd, 1) := by decide +kernel
theorem dL_law_712 : decode cL_law 712 = .ok (.iaload, 1) := by decide +kernel
theorem dL_law_713 : decode cL_law 713 = .ok (.invokevirtual 112, 3) := by decide +kernel
theorem dL_law_716 : decode cL_law 716 = .ok (.aload_n 2, 1) := by decide +kernel
theorem dL_law_717 : decode cL_law 717 = .ok (.aload_n 0, 1) := by decide +kernel
theorem dL_law_718 : decode cL_law 718 = .ok (.iload_n 3, 1) := by decide +kernel
theorem dL_law_719 : decode cL_law 719 = .ok (.iconst 1, 1) := by decide +kernel
theorem dL_law_720 : decode cL_law 720 = .ok (.iadd, 1) := by decide +kernel
theorem dL_law_721 : decode cL_law 721 = .ok (.iaload, 1) := by decide +kernel
theorem dL_law_722 : decode cL_law 722 = .ok (.invokevirtual 115, 3) := by decide +kernel
theorem dL_law_725 : decode cL_law 725 = .ok (.if_icmp .eq 19, 3) := by decide +kernel
theorem dL_law_728 : decode cL_law 728 = .ok (.iconst 0, 1) := by decide +kernel
theorem dL_law_729 : decode cL_law 729 = .ok (.ireturn, 1) := by decide +kernel
theorem dL_law_730 : decode cL_law 730 = .ok (.aload_n 1, 1) := by decide +kernel
theorem dL_law_731 : decode cL_law 731 = .ok (.invokevirtual 116, 3) := by decide +kernel
theorem dL_law_734 : decode cL_law 734 = .ok (.aload_n 2, 1) := by decide +kernel
theorem dL_law_735 : decode cL_law 735 = .ok (.invokevirtual 120, 3) := by decide +kernel
theorem dL_law_738 : decode cL_law 738 = .ok (.lcmp, 1) := by decide +kernel
theorem dL_law_739 : decode cL_law 739 = .ok (.ifCond .eq 5, 3) := by decide +kernel
theorem dL_law_742 : decode cL_law 742 = .ok (.iconst 0, 1) := by decide +kernel
theorem dL_law_743 : decode cL_law 743 = .ok (.ireturn, 1) := by decide +kernel
theorem dL_law_744 : decode cL_law 744 = .ok (.iinc 3 4, 3) := by decide +kernel
theorem dL_law_747 : decode cL_law 747 = .ok (.goto (-729), 3) := by decide +kernel
theorem dL_law_750 : decode cL_law 750 = .ok (.iconst 1, 1) := by decide +kernel
theorem dL_law_751 : decode cL_law 751 = .ok (.ireturn, 1) := by decide +kernel
