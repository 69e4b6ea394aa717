theorem dX12_readBy_0 : decode cX12_readBy 0 = .ok (.iload_n 1, 1) := by decide +kernel
theorem dX12_readBy_1 : decode cX12_readBy 1 = .ok (.ifCond .ne 5, 3) := by decide +kernel
theorem dX12_readBy_4 : decode cX12_readBy 4 = .ok (.iconst (-1), 1) := by decide +kernel
theorem dX12_readBy_5 : decode cX12_readBy 5 = .ok (.ireturn, 1) := by decide +kernel
theorem dX12_readBy_6 : decode cX12_readBy 6 = .ok (.iconst 0, 1) := by decide +kernel
theorem dX12_readBy_7 : decode cX12_readBy 7 = .ok (.istore_n 2, 1) := by decide +kernel
theorem dX12_readBy_8 : decode cX12_readBy 8 = .ok (.iload_n 2, 1) := by decide +kernel
theorem dX12_readBy_9 : decode cX12_readBy 9 = .ok (.aload_n 0, 1) := by decide +kernel
theorem dX12_readBy_10 : decode cX12_readBy 10 = .ok (.getfield 13, 3) := by decide +kernel
theorem dX12_readBy_13 : decode cX12_readBy 13 = .ok (.iconst 1, 1) := by decide +kernel
theorem dX12_readBy_14 : decode cX12_readBy 14 = .ok (.iaload, 1) := by decide +kernel
theorem dX12_readBy_15 : decode cX12_readBy 15 = .ok (.if_icmp .ge 21, 3) := by decide +kernel
theorem dX12_readBy_18 : decode cX12_readBy 18 = .ok (.aload_n 0, 1) := by decide +kernel
theorem dX12_readBy_19 : decode cX12_readBy 19 = .ok (.getfield 38, 3) := by decide +kernel
theorem dX12_readBy_22 : decode cX12_readBy 22 = .ok (.iload_n 2, 1) := by decide +kernel
theorem dX12_readBy_23 : decode cX12_readBy 23 = .ok (.iaload, 1) := by decide +kernel
theorem dX12_readBy_24 : decode cX12_readBy 24 = .ok (.iload_n 1, 1) := by decide +kernel
theorem dX12_readBy_25 : decode cX12_readBy 25 = .ok (.if_icmp .ne 5, 3) := by decide +kernel
theorem dX12_readBy_28 : decode cX12_readBy 28 = .ok (.iload_n 2, 1) := by decide +kernel
theorem dX12_readBy_29 : decode cX12_readBy 29 = .ok (.ireturn, 1) := by decide +kernel
theorem dX12_readBy_30 : decode cX12_readBy 30 = .ok (.iinc 2 1, 3) := by decide +kernel
theorem dX12_readBy_33 : decode cX12_readBy 33 = .ok (.goto (-25), 3) := by decide +kernel
theorem dX12_readBy_36 : decode cX12_readBy 36 = .ok (.bipush 6, 2) := by decide +kernel
theorem dX12_readBy_38 : decode cX12_readBy 38 = .ok (.ireturn, 1) := by decide +kernel
theorem dX12_passes_0 : decode cX12_passes 0 = .ok (.aload_n 0, 1) := by decide +kernel
theorem dX12_passes_1 : decode cX12_passes 1 = .ok (.iconst 0, 1) := by decide +kernel
theorem dX12_passes_2 : decode cX12_passes 2 = .ok (.putfield 374, 3) := by decide +kernel
theorem dX12_passes_5 : decode cX12_passes 5 = .ok (.aload_n 0, 1) := by decide +kernel
theorem dX12_passes_6 : decode cX12_passes 6 = .ok (.iconst 0, 1) := by decide +kernel
theorem dX12_passes_7 : decode cX12_passes 7 = .ok (.putfield 371, 3) := by decide +kernel
theorem dX12_passes_10 : decode cX12_passes 10 = .ok (.iconst 0, 1) := by decide +kernel
theorem dX12_passes_11 : decode cX12_passes 11 = .ok (.istore_n 2, 1) := by decide +kernel
theorem dX12_passes_12 : decode cX12_passes 12 = .ok (.iconst 0, 1) := by decide +kernel
theorem dX12_passes_13 : decode cX12_passes 13 = .ok (.istore_n 3, 1) := by decide +kernel
theorem dX12_passes_14 : decode cX12_passes 14 = .ok (.iload_n 3, 1) := by decide +kernel
theorem dX12_passes_15 : decode cX12_passes 15 = .ok (.aload_n 0, 1) := by decide +kernel
theorem dX12_passes_16 : decode cX12_passes 16 = .ok (.getfield 13, 3) := by decide +kernel
theorem dX12_passes_19 : decode cX12_passes 19 = .ok (.iconst 0, 1) := by decide +kernel
theorem dX12_passes_20 : decode cX12_passes 20 = .ok (.iaload, 1) := by decide +kernel
theorem dX12_passes_21 : decode cX12_passes 21 = .ok (.if_icmp .ge 28, 3) := by decide +kernel
theorem dX12_passes_24 : decode cX12_passes 24 = .ok (.aload_n 0, 1) := by decide +kernel
theorem dX12_passes_25 : decode cX12_passes 25 = .ok (.getfield 117, 3) := by decide +kernel
theorem dX12_passes_28 : decode cX12_passes 28 = .ok (.iconst 5, 1) := by decide +kernel
theorem dX12_passes_29 : decode cX12_passes 29 = .ok (.iload_n 3, 1) := by decide +kernel
theorem dX12_passes_30 : decode cX12_passes 30 = .ok (.iadd, 1) := by decide +kernel
theorem dX12_passes_31 : decode cX12_passes 31 = .ok (.dup2, 1) := by decide +kernel
theorem dX12_passes_32 : decode cX12_passes 32 = .ok (.iaload, 1) := by decide +kernel
theorem dX12_passes_33 : decode cX12_passes 33 = .ok (.iload_n 1, 1) := by decide +kernel
theorem dX12_passes_34 : decode cX12_passes 34 = .ok (.aload_n 0, 1) := by decide +kernel
theorem dX12_passes_35 : decode cX12_passes 35 = .ok (.getfield 29, 3) := by decide +kernel
theorem dX12_passes_38 : decode cX12_passes 38 = .ok (.iload_n 3, 1) := by decide +kernel
theorem dX12_passes_39 : decode cX12_passes 39 = .ok (.iaload, 1) := by decide +kernel
theorem dX12_passes_40 : decode cX12_passes 40 = .ok (.imul, 1) := by decide +kernel
theorem dX12_passes_41 : decode cX12_passes 41 = .ok (.iadd, 1) := by decide +kernel
theorem dX12_passes_42 : decode cX12_passes 42 = .ok (.iastore, 1) := by decide +kernel
theorem dX12_passes_43 : decode cX12_passes 43 = .ok (.iinc 3 1, 3) := by decide +kernel
theorem dX12_passes_46 : decode cX12_passes 46 = .ok (.goto (-32), 3) := by decide +kernel
theorem dX12_passes_49 : decode cX12_passes 49 = .ok (.iconst 0, 1) := by decide +kernel
theorem dX12_passes_50 : decode cX12_passes 50 = .ok (.istore_n 3, 1) := by decide +kernel
theorem dX12_passes_51 : decode cX12_passes 51 = .ok (.iload_n 3, 1) := by decide +kernel
theorem dX12_passes_52 : decode cX12_passes 52 = .ok (.aload_n 0, 1) := by decide +kernel
theorem dX12_passes_53 : decode cX12_passes 53 = .ok (.getfield 13, 3) := by decide +kernel
theorem dX12_passes_56 : decode cX12_passes 56 = .ok (.iconst 0, 1) := by decide +kernel
theorem dX12_passes_57 : decode cX12_passes 57 = .ok (.iaload, 1) := by decide +kernel
theorem dX12_passes_58 : decode cX12_passes 58 = .ok (.if_icmp .ge 82, 3) := by decide +kernel
theorem dX12_passes_61 : decode cX12_passes 61 = .ok (.aload_n 0, 1) := by decide +kernel
theorem dX12_passes_62 : decode cX12_passes 62 = .ok (.getfield 135, 3) := by decide +kernel
theorem dX12_passes_65 : decode cX12_passes 65 = .ok (.iload_n 3, 1) := by decide +kernel
theorem dX12_passes_66 : decode cX12_passes 66 = .ok (.iaload, 1) := by decide +kernel
theorem dX12_passes_67 : decode cX12_passes 67 = .ok (.istore 4, 2) := by decide +kernel
theorem dX12_passes_69 : decode cX12_passes 69 = .ok (.aload_n 0, 1) := by decide +kernel
theorem dX12_passes_70 : decode cX12_passes 70 = .ok (.iload 4, 2) := by decide +kernel
theorem dX12_passes_72 : decode cX12_passes 72 = .ok (.invokevirtual 377, 3) := by decide +kernel
theorem dX12_passes_75 : decode cX12_passes 75 = .ok (.aload_n 0, 1) := by decide +kernel
theorem dX12_passes_76 : decode cX12_passes 76 = .ok (.getfield 117, 3) := by decide +kernel
theorem dX12_passes_79 : decode cX12_passes 79 = .ok (.bipush 12, 2) := by decide +kernel
theorem dX12_passes_81 : decode cX12_passes 81 = .ok (.iload 4, 2) := by decide +kernel
theorem dX12_passes_83 : decode cX12_passes 83 = .ok (.iadd, 1) := by decide +kernel
theorem dX12_passes_84 : decode cX12_passes 84 = .ok (.aload_n 0, 1) := by decide +kernel
theorem dX12_passes_85 : decode cX12_passes 85 = .ok (.iload 4, 2) := by decide +kernel
theorem dX12_passes_87 : decode cX12_passes 87 = .ok (.invokevirtual 380, 3) := by decide +kernel
theorem dX12_passes_90 : decode cX12_passes 90 = .ok (.iastore, 1) := by decide +kernel
theorem dX12_passes_91 : decode cX12_passes 91 = .ok (.aload_n 0, 1) := by decide +kernel
theorem dX12_passes_92 : decode cX12_passes 92 = .ok (.getfield 117, 3) := by decide +kernel
theorem dX12_passes_95 : decode cX12_passes 95 = .ok (.iconst 5, 1) := by decide +kernel
theorem dX12_passes_96 : decode cX12_passes 96 = .ok (.iload 4, 2) := by decide +kernel
theorem dX12_passes_98 : decode cX12_passes 98 = .ok (.iadd, 1) := by decide +kernel
theorem dX12_passes_99 : decode cX12_passes 99 = .ok (.dup2, 1) := by decide +kernel
theorem dX12_passes_100 : decode cX12_passes 100 = .ok (.iaload, 1) := by decide +kernel
theorem dX12_passes_101 : decode cX12_passes 101 = .ok (.aload_n 0, 1) := by decide +kernel
theorem dX12_passes_102 : decode cX12_passes 102 = .ok (.getfield 117, 3) := by decide +kernel
theorem dX12_passes_105 : decode cX12_passes 105 = .ok (.bipush 12, 2) := by decide +kernel
theorem dX12_passes_107 : decode cX12_passes 107 = .ok (.iload 4, 2) := by decide +kernel
theorem dX12_passes_109 : decode cX12_passes 109 = .ok (.iadd, 1) := by decide +kernel
theorem dX12_passes_110 : decode cX12_passes 110 = .ok (.iaload, 1) := by decide +kernel
theorem dX12_passes_111 : decode cX12_passes 111 = .ok (.isub, 1) := by decide +kernel
theorem dX12_passes_112 : decode cX12_passes 112 = .ok (.iastore, 1) := by decide +kernel
theorem dX12_passes_113 : decode cX12_passes 113 = .ok (.iload_n 2, 1) := by decide +kernel
theorem dX12_passes_114 : decode cX12_passes 114 = .ok (.aload_n 0, 1) := by decide +kernel
theorem dX12_passes_115 : decode cX12_passes 115 = .ok (.iload 4, 2) := by decide +kernel
theorem dX12_passes_117 : decode cX12_passes 117 = .ok (.iload_n 1, 1) := by decide +kernel
theorem dX12_passes_118 : decode cX12_passes 118 = .ok (.invokevirtual 383, 3) := by decide +kernel
theorem dX12_passes_121 : decode cX12_passes 121 = .ok (.ifCond .eq 10, 3) := by decide +kernel
theorem dX12_passes_124 : decode cX12_passes 124 = .ok (.iconst 1, 1) := by decide +kernel
theorem dX12_passes_125 : decode cX12_passes 125 = .ok (.iload 4, 2) := by decide +kernel
theorem dX12_passes_127 : decode cX12_passes 127 = .ok (.ishl, 1) := by decide +kernel
theorem dX12_passes_128 : decode cX12_passes 128 = .ok (.goto 4, 3) := by decide +kernel
theorem dX12_passes_131 : decode cX12_passes 131 = .ok (.iconst 0, 1) := by decide +kernel
theorem dX12_passes_132 : decode cX12_passes 132 = .ok (.ior, 1) := by decide +kernel
theorem dX12_passes_133 : decode cX12_passes 133 = .ok (.istore_n 2, 1) := by decide +kernel
theorem dX12_passes_134 : decode cX12_passes 134 = .ok (.iinc 3 1, 3) := by decide +kernel
theorem dX12_passes_137 : decode cX12_passes 137 = .ok (.goto (-86), 3) := by decide +kernel
theorem dX12_passes_140 : decode cX12_passes 140 = .ok (.aload_n 0, 1) := by decide +kernel
theorem dX12_passes_141 : decode cX12_passes 141 = .ok (.iload_n 2, 1) := by decide +kernel
theorem dX12_passes_142 : decode cX12_passes 142 = .ok (.invokevirtual 386, 3) := by decide +kernel
theorem dX12_passes_145 : decode cX12_passes 145 = .ok (.istore_n 3, 1) := by decide +kernel
theorem dX12_passes_146 : decode cX12_passes 146 = .ok (.aload_n 0, 1) := by decide +kernel
theorem dX12_passes_147 : decode cX12_passes 147 = .ok (.getfield 117, 3) := by decide +kernel
theorem dX12_passes_150 : decode cX12_passes 150 = .ok (.iconst 2, 1) := by decide +kernel
theorem dX12_passes_151 : decode cX12_passes 151 = .ok (.iload_n 2, 1) := by decide +kernel
theorem dX12_passes_152 : decode cX12_passes 152 = .ok (.iastore, 1) := by decide +kernel
theorem dX12_passes_153 : decode cX12_passes 153 = .ok (.aload_n 0, 1) := by decide +kernel
theorem dX12_passes_154 : decode cX12_passes 154 = .ok (.getfield 117, 3) := by decide +kernel
theorem dX12_passes_157 : decode cX12_passes 157 = .ok (.iconst 3, 1) := by decide +kernel
theorem dX12_passes_158 : decode cX12_passes 158 = .ok (.iload_n 3, 1) := by decide +kernel
theorem dX12_passes_159 : decode cX12_passes 159 = .ok (.iastore, 1) := by decide +kernel
theorem dX12_passes_160 : decode cX12_passes 160 = .ok (.iload_n 3, 1) := by decide +kernel
theorem dX12_passes_161 : decode cX12_passes 161 = .ok (.ifCond .lt 39, 3) := by decide +kernel
theorem dX12_passes_164 : decode cX12_passes 164 = .ok (.aload_n 0, 1) := by decide +kernel
theorem dX12_passes_165 : decode cX12_passes 165 = .ok (.getfield 117, 3) := by decide +kernel
theorem dX12_passes_168 : decode cX12_passes 168 = .ok (.iconst 4, 1) := by decide +kernel
theorem dX12_passes_169 : decode cX12_passes 169 = .ok (.iaload, 1) := by decide +kernel
theorem dX12_passes_170 : decode cX12_passes 170 = .ok (.bipush 40, 2) := by decide +kernel
theorem dX12_passes_172 : decode cX12_passes 172 = .ok (.if_icmp .ge 28, 3) := by decide +kernel
theorem dX12_passes_175 : decode cX12_passes 175 = .ok (.aload_n 0, 1) := by decide +kernel
theorem dX12_passes_176 : decode cX12_passes 176 = .ok (.getfield 117, 3) := by decide +kernel
theorem dX12_passes_179 : decode cX12_passes 179 = .ok (.bipush 19, 2) := by decide +kernel
theorem dX12_passes_181 : decode cX12_passes 181 = .ok (.aload_n 0, 1) := by decide +kernel
theorem dX12_passes_182 : decode cX12_passes 182 = .ok (.getfield 117, 3) := by decide +kernel
theorem dX12_passes_185 : decode cX12_passes 185 = .ok (.iconst 4, 1) := by decide +kernel
theorem dX12_passes_186 : decode cX12_passes 186 = .ok (.iaload, 1) := by decide +kernel
theorem dX12_passes_187 : decode cX12_passes 187 = .ok (.iadd, 1) := by decide +kernel
theorem dX12_passes_188 : decode cX12_passes 188 = .ok (.iload_n 3, 1) := by decide +kernel
theorem dX12_passes_189 : decode cX12_passes 189 = .ok (.iastore, 1) := by decide +kernel
theorem dX12_passes_190 : decode cX12_passes 190 = .ok (.aload_n 0, 1) := by decide +kernel
theorem dX12_passes_191 : decode cX12_passes 191 = .ok (.getfield 117, 3) := by decide +kernel
theorem dX12_passes_194 : decode cX12_passes 194 = .ok (.iconst 4, 1) := by decide +kernel
theorem dX12_passes_195 : decode cX12_passes 195 = .ok (.dup2, 1) := by decide +kernel
theorem dX12_passes_196 : decode cX12_passes 196 = .ok (.iaload, 1) := by decide +kernel
theorem dX12_passes_197 : decode cX12_passes 197 = .ok (.iconst 1, 1) := by decide +kernel
theorem dX12_passes_198 : decode cX12_passes 198 = .ok (.iadd, 1) := by decide +kernel
theorem dX12_passes_199 : decode cX12_passes 199 = .ok (.iastore, 1) := by decide +kernel
theorem dX12_passes_200 : decode cX12_passes 200 = .ok (.aload_n 0, 1) := by decide +kernel
theorem dX12_passes_201 : decode cX12_passes 201 = .ok (.getfield 117, 3) := by decide +kernel
theorem dX12_passes_204 : decode cX12_passes 204 = .ok (.iconst 0, 1) := by decide +kernel
theorem dX12_passes_205 : decode cX12_passes 205 = .ok (.dup2, 1) := by decide +kernel
theorem dX12_passes_206 : decode cX12_passes 206 = .ok (.iaload, 1) := by decide +kernel
theorem dX12_passes_207 : decode cX12_passes 207 = .ok (.iconst 1, 1) := by decide +kernel
theorem dX12_passes_208 : decode cX12_passes 208 = .ok (.iadd, 1) := by decide +kernel
theorem dX12_passes_209 : decode cX12_passes 209 = .ok (.iastore, 1) := by decide +kernel
theorem dX12_passes_210 : decode cX12_passes 210 = .ok (.iload_n 3, 1) := by decide +kernel
theorem dX12_passes_211 : decode cX12_passes 211 = .ok (.ireturn, 1) := by decide +kernel
theorem dX12_passesAsTold_0 : decode cX12_passesAsTold 0 = .ok (.aload_n 0, 1) := by decide +kernel
theorem dX12_passesAsTold_1 : decode cX12_passesAsTold 1 = .ok (.aload_n 0, 1) := by decide +kernel
theorem dX12_passesAsTold_2 : decode cX12_passesAsTold 2 = .ok (.aload_n 0, 1) := by decide +kernel
theorem dX12_passesAsTold_3 : decode cX12_passesAsTold 3 = .ok (.getfield 117, 3) := by decide +kernel
theorem dX12_passesAsTold_6 : decode cX12_passesAsTold 6 = .ok (.iconst 0, 1) := by decide +kernel
theorem dX12_passesAsTold_7 : decode cX12_passesAsTold 7 = .ok (.iaload, 1) := by decide +kernel
theorem dX12_passesAsTold_8 : decode cX12_passesAsTold 8 = .ok (.invokevirtual 389, 3) := by decide +kernel
theorem dX12_passesAsTold_11 : decode cX12_passesAsTold 11 = .ok (.invokevirtual 392, 3) := by decide +kernel
theorem dX12_passesAsTold_14 : decode cX12_passesAsTold 14 = .ok (.ireturn, 1) := by decide +kernel
theorem dX12_mouth_0 : decode cX12_mouth 0 = .ok (.aload_n 0, 1) := by decide +kernel
theorem dX12_mouth_1 : decode cX12_mouth 1 = .ok (.iconst 0, 1) := by decide +kernel
theorem dX12_mouth_2 : decode cX12_mouth 2 = .ok (.putfield 147, 3) := by decide +kernel
theorem dX12_mouth_5 : decode cX12_mouth 5 = .ok (.aload_n 0, 1) := by decide +kernel
theorem dX12_mouth_6 : decode cX12_mouth 6 = .ok (.iload_n 1, 1) := by decide +kernel
theorem dX12_mouth_7 : decode cX12_mouth 7 = .ok (.invokevirtual 395, 3) := by decide +kernel
theorem dX12_mouth_10 : decode cX12_mouth 10 = .ok (.ifCond .eq 13, 3) := by decide +kernel
theorem dX12_mouth_13 : decode cX12_mouth 13 = .ok (.iload_n 2, 1) := by decide +kernel
theorem dX12_mouth_14 : decode cX12_mouth 14 = .ok (.iconst 0, 1) := by decide +kernel
theorem dX12_mouth_15 : decode cX12_mouth 15 = .ok (.bipush 7, 2) := by decide +kernel
theorem dX12_mouth_17 : decode cX12_mouth 17 = .ok (.invokestatic 268, 3) := by decide +kernel
theorem dX12_mouth_20 : decode cX12_mouth 20 = .ok (.ifCond .ne 6, 3) := by decide +kernel
theorem dX12_mouth_23 : decode cX12_mouth 23 = .ok (.bipush (-2), 2) := by decide +kernel
theorem dX12_mouth_25 : decode cX12_mouth 25 = .ok (.ireturn, 1) := by decide +kernel
theorem dX12_mouth_26 : decode cX12_mouth 26 = .ok (.iload_n 2, 1) := by decide +kernel
theorem dX12_mouth_27 : decode cX12_mouth 27 = .ok (.iconst 4, 1) := by decide +kernel
theorem dX12_mouth_28 : decode cX12_mouth 28 = .ok (.if_icmp .ge 51, 3) := by decide +kernel
theorem dX12_mouth_31 : decode cX12_mouth 31 = .ok (.iload_n 2, 1) := by decide +kernel
theorem dX12_mouth_32 : decode cX12_mouth 32 = .ok (.ifCond .ne 12, 3) := by decide +kernel
theorem dX12_mouth_35 : decode cX12_mouth 35 = .ok (.aload_n 0, 1) := by decide +kernel
theorem dX12_mouth_36 : decode cX12_mouth 36 = .ok (.getfield 23, 3) := by decide +kernel
theorem dX12_mouth_39 : decode cX12_mouth 39 = .ok (.iload_n 1, 1) := by decide +kernel
theorem dX12_mouth_40 : decode cX12_mouth 40 = .ok (.iaload, 1) := by decide +kernel
theorem dX12_mouth_41 : decode cX12_mouth 41 = .ok (.goto 37, 3) := by decide +kernel
theorem dX12_mouth_44 : decode cX12_mouth 44 = .ok (.iload_n 2, 1) := by decide +kernel
theorem dX12_mouth_45 : decode cX12_mouth 45 = .ok (.iconst 1, 1) := by decide +kernel
theorem dX12_mouth_46 : decode cX12_mouth 46 = .ok (.if_icmp .ne 12, 3) := by decide +kernel
theorem dX12_mouth_49 : decode cX12_mouth 49 = .ok (.aload_n 0, 1) := by decide +kernel
theorem dX12_mouth_50 : decode cX12_mouth 50 = .ok (.getfield 26, 3) := by decide +kernel
theorem dX12_mouth_53 : decode cX12_mouth 53 = .ok (.iload_n 1, 1) := by decide +kernel
theorem dX12_mouth_54 : decode cX12_mouth 54 = .ok (.iaload, 1) := by decide +kernel
theorem dX12_mouth_55 : decode cX12_mouth 55 = .ok (.goto 23, 3) := by decide +kernel
theorem dX12_mouth_58 : decode cX12_mouth 58 = .ok (.iload_n 2, 1) := by decide +kernel
theorem dX12_mouth_59 : decode cX12_mouth 59 = .ok (.iconst 2, 1) := by decide +kernel
theorem dX12_mouth_60 : decode cX12_mouth 60 = .ok (.if_icmp .ne 12, 3) := by decide +kernel
theorem dX12_mouth_63 : decode cX12_mouth 63 = .ok (.aload_n 0, 1) := by decide +kernel
theorem dX12_mouth_64 : decode cX12_mouth 64 = .ok (.getfield 29, 3) := by decide +kernel
theorem dX12_mouth_67 : decode cX12_mouth 67 = .ok (.iload_n 1, 1) := by decide +kernel
theorem dX12_mouth_68 : decode cX12_mouth 68 = .ok (.iaload, 1) := by decide +kernel
theorem dX12_mouth_69 : decode cX12_mouth 69 = .ok (.goto 9, 3) := by decide +kernel
theorem dX12_mouth_72 : decode cX12_mouth 72 = .ok (.aload_n 0, 1) := by decide +kernel
theorem dX12_mouth_73 : decode cX12_mouth 73 = .ok (.getfield 32, 3) := by decide +kernel
theorem dX12_mouth_76 : decode cX12_mouth 76 = .ok (.iload_n 1, 1) := by decide +kernel
theorem dX12_mouth_77 : decode cX12_mouth 77 = .ok (.iaload, 1) := by decide +kernel
theorem dX12_mouth_78 : decode cX12_mouth 78 = .ok (.ireturn, 1) := by decide +kernel
theorem dX12_mouth_79 : decode cX12_mouth 79 = .ok (.iload_n 2, 1) := by decide +kernel
theorem dX12_mouth_80 : decode cX12_mouth 80 = .ok (.bipush 6, 2) := by decide +kernel
theorem dX12_mouth_82 : decode cX12_mouth 82 = .ok (.if_icmp .ge 26, 3) := by decide +kernel
theorem dX12_mouth_85 : decode cX12_mouth 85 = .ok (.iload_n 2, 1) := by decide +kernel
theorem dX12_mouth_86 : decode cX12_mouth 86 = .ok (.iconst 4, 1) := by decide +kernel
theorem dX12_mouth_87 : decode cX12_mouth 87 = .ok (.if_icmp .ne 12, 3) := by decide +kernel
theorem dX12_mouth_90 : decode cX12_mouth 90 = .ok (.aload_n 0, 1) := by decide +kernel
theorem dX12_mouth_91 : decode cX12_mouth 91 = .ok (.getfield 35, 3) := by decide +kernel
theorem dX12_mouth_94 : decode cX12_mouth 94 = .ok (.iload_n 1, 1) := by decide +kernel
theorem dX12_mouth_95 : decode cX12_mouth 95 = .ok (.iaload, 1) := by decide +kernel
theorem dX12_mouth_96 : decode cX12_mouth 96 = .ok (.goto 11, 3) := by decide +kernel
theorem dX12_mouth_99 : decode cX12_mouth 99 = .ok (.aload_n 0, 1) := by decide +kernel
theorem dX12_mouth_100 : decode cX12_mouth 100 = .ok (.getfield 117, 3) := by decide +kernel
theorem dX12_mouth_103 : decode cX12_mouth 103 = .ok (.iconst 5, 1) := by decide +kernel
theorem dX12_mouth_104 : decode cX12_mouth 104 = .ok (.iload_n 1, 1) := by decide +kernel
theorem dX12_mouth_105 : decode cX12_mouth 105 = .ok (.iadd, 1) := by decide +kernel
theorem dX12_mouth_106 : decode cX12_mouth 106 = .ok (.iaload, 1) := by decide +kernel
theorem dX12_mouth_107 : decode cX12_mouth 107 = .ok (.ireturn, 1) := by decide +kernel
theorem dX12_mouth_108 : decode cX12_mouth 108 = .ok (.iload_n 2, 1) := by decide +kernel
theorem dX12_mouth_109 : decode cX12_mouth 109 = .ok (.bipush 6, 2) := by decide +kernel
theorem dX12_mouth_111 : decode cX12_mouth 111 = .ok (.if_icmp .ne 16, 3) := by decide +kernel
theorem dX12_mouth_114 : decode cX12_mouth 114 = .ok (.aload_n 0, 1) := by decide +kernel
theorem dX12_mouth_115 : decode cX12_mouth 115 = .ok (.getfield 117, 3) := by decide +kernel
theorem dX12_mouth_118 : decode cX12_mouth 118 = .ok (.iconst 1, 1) := by decide +kernel
theorem dX12_mouth_119 : decode cX12_mouth 119 = .ok (.iaload, 1) := by decide +kernel
theorem dX12_mouth_120 : decode cX12_mouth 120 = .ok (.iload_n 1, 1) := by decide +kernel
theorem dX12_mouth_121 : decode cX12_mouth 121 = .ok (.ishr, 1) := by decide +kernel
theorem dX12_mouth_122 : decode cX12_mouth 122 = .ok (.iconst 1, 1) := by decide +kernel
theorem dX12_mouth_123 : decode cX12_mouth 123 = .ok (.iand, 1) := by decide +kernel
theorem dX12_mouth_124 : decode cX12_mouth 124 = .ok (.goto 12, 3) := by decide +kernel
theorem dX12_mouth_127 : decode cX12_mouth 127 = .ok (.aload_n 0, 1) := by decide +kernel
theorem dX12_mouth_128 : decode cX12_mouth 128 = .ok (.getfield 117, 3) := by decide +kernel
theorem dX12_mouth_131 : decode cX12_mouth 131 = .ok (.bipush 12, 2) := by decide +kernel
theorem dX12_mouth_133 : decode cX12_mouth 133 = .ok (.iload_n 1, 1) := by decide +kernel
theorem dX12_mouth_134 : decode cX12_mouth 134 = .ok (.iadd, 1) := by decide +kernel
theorem dX12_mouth_135 : decode cX12_mouth 135 = .ok (.iaload, 1) := by decide +kernel
theorem dX12_mouth_136 : decode cX12_mouth 136 = .ok (.ireturn, 1) := by decide +kernel
theorem dX12_letter_0 : decode cX12_letter 0 = .ok (.aload_n 0, 1) := by decide +kernel
theorem dX12_letter_1 : decode cX12_letter 1 = .ok (.iconst 0, 1) := by decide +kernel
theorem dX12_letter_2 : decode cX12_letter 2 = .ok (.putfield 147, 3) := by decide +kernel
theorem dX12_letter_5 : decode cX12_letter 5 = .ok (.aload_n 0, 1) := by decide +kernel
theorem dX12_letter_6 : decode cX12_letter 6 = .ok (.iload_n 1, 1) := by decide +kernel
theorem dX12_letter_7 : decode cX12_letter 7 = .ok (.invokevirtual 398, 3) := by decide +kernel
theorem dX12_letter_10 : decode cX12_letter 10 = .ok (.ifCond .eq 12, 3) := by decide +kernel
theorem dX12_letter_13 : decode cX12_letter 13 = .ok (.aload_n 0, 1) := by decide +kernel
theorem dX12_letter_14 : decode cX12_letter 14 = .ok (.getfield 38, 3) := by decide +kernel
theorem dX12_letter_17 : decode cX12_letter 17 = .ok (.iload_n 1, 1) := by decide +kernel
theorem dX12_letter_18 : decode cX12_letter 18 = .ok (.iaload, 1) := by decide +kernel
theorem dX12_letter_19 : decode cX12_letter 19 = .ok (.goto 4, 3) := by decide +kernel
theorem dX12_letter_22 : decode cX12_letter 22 = .ok (.iconst (-1), 1) := by decide +kernel
theorem dX12_letter_23 : decode cX12_letter 23 = .ok (.ireturn, 1) := by decide +kernel
theorem dX12_slate_0 : decode cX12_slate 0 = .ok (.aload_n 0, 1) := by decide +kernel
theorem dX12_slate_1 : decode cX12_slate 1 = .ok (.iconst 0, 1) := by decide +kernel
theorem dX12_slate_2 : decode cX12_slate 2 = .ok (.putfield 147, 3) := by decide +kernel
theorem dX12_slate_5 : decode cX12_slate 5 = .ok (.iload_n 1, 1) := by decide +kernel
theorem dX12_slate_6 : decode cX12_slate 6 = .ok (.ifCond .lt 25, 3) := by decide +kernel
theorem dX12_slate_9 : decode cX12_slate 9 = .ok (.iload_n 1, 1) := by decide +kernel
theorem dX12_slate_10 : decode cX12_slate 10 = .ok (.aload_n 0, 1) := by decide +kernel
theorem dX12_slate_11 : decode cX12_slate 11 = .ok (.getfield 117, 3) := by decide +kernel
theorem dX12_slate_14 : decode cX12_slate 14 = .ok (.iconst 4, 1) := by decide +kernel
theorem dX12_slate_15 : decode cX12_slate 15 = .ok (.iaload, 1) := by decide +kernel
theorem dX12_slate_16 : decode cX12_slate 16 = .ok (.if_icmp .ge 15, 3) := by decide +kernel
theorem dX12_slate_19 : decode cX12_slate 19 = .ok (.aload_n 0, 1) := by decide +kernel
theorem dX12_slate_20 : decode cX12_slate 20 = .ok (.getfield 117, 3) := by decide +kernel
theorem dX12_slate_23 : decode cX12_slate 23 = .ok (.bipush 19, 2) := by decide +kernel
theorem dX12_slate_25 : decode cX12_slate 25 = .ok (.iload_n 1, 1) := by decide +kernel
theorem dX12_slate_26 : decode cX12_slate 26 = .ok (.iadd, 1) := by decide +kernel
theorem dX12_slate_27 : decode cX12_slate 27 = .ok (.iaload, 1) := by decide +kernel
theorem dX12_slate_28 : decode cX12_slate 28 = .ok (.goto 4, 3) := by decide +kernel
theorem dX12_slate_31 : decode cX12_slate 31 = .ok (.iconst (-1), 1) := by decide +kernel
theorem dX12_slate_32 : decode cX12_slate 32 = .ok (.ireturn, 1) := by decide +kernel
theorem dX12_keeps_0 : decode cX12_keeps 0 = .ok (.aload_n 0, 1) := by decide +kernel
theorem dX12_keeps_1 : decode cX12_keeps 1 = .ok (.getfield 343, 3) := by decide +kernel
theorem dX12_keeps_4 : decode cX12_keeps 4 = .ok (.bipush 16, 2) := by decide +kernel
theorem dX12_keeps_6 : decode cX12_keeps 6 = .ok (.if_icmp .ne 43, 3) := by decide +kernel
theorem dX12_keeps_9 : decode cX12_keeps 9 = .ok (.iconst 0, 1) := by decide +kernel
theorem dX12_keeps_10 : decode cX12_keeps 10 = .ok (.istore_n 1, 1) := by decide +kernel
theorem dX12_keeps_11 : decode cX12_keeps 11 = .ok (.iload_n 1, 1) := by decide +kernel
theorem dX12_keeps_12 : decode cX12_keeps 12 = .ok (.sipush 885, 3) := by decide +kernel
theorem dX12_keeps_15 : decode cX12_keeps 15 = .ok (.if_icmp .ge 24, 3) := by decide +kernel
theorem dX12_keeps_18 : decode cX12_keeps 18 = .ok (.aload_n 0, 1) := by decide +kernel
theorem dX12_keeps_19 : decode cX12_keeps 19 = .ok (.getfield 129, 3) := by decide +kernel
theorem dX12_keeps_22 : decode cX12_keeps 22 = .ok (.iload_n 1, 1) := by decide +kernel
theorem dX12_keeps_23 : decode cX12_keeps 23 = .ok (.aload_n 0, 1) := by decide +kernel
theorem dX12_keeps_24 : decode cX12_keeps 24 = .ok (.getfield 129, 3) := by decide +kernel
theorem dX12_keeps_27 : decode cX12_keeps 27 = .ok (.iload_n 1, 1) := by decide +kernel
theorem dX12_keeps_28 : decode cX12_keeps 28 = .ok (.bipush 59, 2) := by decide +kernel
theorem dX12_keeps_30 : decode cX12_keeps 30 = .ok (.iadd, 1) := by decide +kernel
theorem dX12_keeps_31 : decode cX12_keeps 31 = .ok (.iaload, 1) := by decide +kernel
theorem dX12_keeps_32 : decode cX12_keeps 32 = .ok (.iastore, 1) := by decide +kernel
theorem dX12_keeps_33 : decode cX12_keeps 33 = .ok (.iinc 1 1, 3) := by decide +kernel
theorem dX12_keeps_36 : decode cX12_keeps 36 = .ok (.goto (-25), 3) := by decide +kernel
theorem dX12_keeps_39 : decode cX12_keeps 39 = .ok (.aload_n 0, 1) := by decide +kernel
theorem dX12_keeps_40 : decode cX12_keeps 40 = .ok (.dup, 1) := by decide +kernel
theorem dX12_keeps_41 : decode cX12_keeps 41 = .ok (.getfield 343, 3) := by decide +kernel
theorem dX12_keeps_44 : decode cX12_keeps 44 = .ok (.iconst 1, 1) := by decide +kernel
theorem dX12_keeps_45 : decode cX12_keeps 45 = .ok (.isub, 1) := by decide +kernel
theorem dX12_keeps_46 : decode cX12_keeps 46 = .ok (.putfield 343, 3) := by decide +kernel
theorem dX12_keeps_49 : decode cX12_keeps 49 = .ok (.aload_n 0, 1) := by decide +kernel
theorem dX12_keeps_50 : decode cX12_keeps 50 = .ok (.getfield 117, 3) := by decide +kernel
theorem dX12_keeps_53 : decode cX12_keeps 53 = .ok (.iconst 0, 1) := by decide +kernel
theorem dX12_keeps_54 : decode cX12_keeps 54 = .ok (.aload_n 0, 1) := by decide +kernel
theorem dX12_keeps_55 : decode cX12_keeps 55 = .ok (.getfield 129, 3) := by decide +kernel
theorem dX12_keeps_58 : decode cX12_keeps 58 = .ok (.bipush 59, 2) := by decide +kernel
theorem dX12_keeps_60 : decode cX12_keeps 60 = .ok (.aload_n 0, 1) := by decide +kernel
theorem dX12_keeps_61 : decode cX12_keeps 61 = .ok (.getfield 343, 3) := by decide +kernel
theorem dX12_keeps_64 : decode cX12_keeps 64 = .ok (.imul, 1) := by decide +kernel
theorem dX12_keeps_65 : decode cX12_keeps 65 = .ok (.invokestatic 401, 3) := by decide +kernel
theorem dX12_keeps_68 : decode cX12_keeps 68 = .ok (.aload_n 0, 1) := by decide +kernel
theorem dX12_keeps_69 : decode cX12_keeps 69 = .ok (.dup, 1) := by decide +kernel
theorem dX12_keeps_70 : decode cX12_keeps 70 = .ok (.getfield 343, 3) := by decide +kernel
theorem dX12_keeps_73 : decode cX12_keeps 73 = .ok (.iconst 1, 1) := by decide +kernel
theorem dX12_keeps_74 : decode cX12_keeps 74 = .ok (.iadd, 1) := by decide +kernel
theorem dX12_keeps_75 : decode cX12_keeps 75 = .ok (.putfield 343, 3) := by decide +kernel
theorem dX12_keeps_78 : decode cX12_keeps 78 = .ok (.return_, 1) := by decide +kernel
theorem dX12_minute_0 : decode cX12_minute 0 = .ok (.aload_n 0, 1) := by decide +kernel
theorem dX12_minute_1 : decode cX12_minute 1 = .ok (.iconst 0, 1) := by decide +kernel
theorem dX12_minute_2 : decode cX12_minute 2 = .ok (.putfield 147, 3) := by decide +kernel
theorem dX12_minute_5 : decode cX12_minute 5 = .ok (.aload_n 0, 1) := by decide +kernel
theorem dX12_minute_6 : decode cX12_minute 6 = .ok (.invokevirtual 405, 3) := by decide +kernel
theorem dX12_minute_9 : decode cX12_minute 9 = .ok (.aload_n 0, 1) := by decide +kernel
theorem dX12_minute_10 : decode cX12_minute 10 = .ok (.invokevirtual 408, 3) := by decide +kernel
theorem dX12_minute_13 : decode cX12_minute 13 = .ok (.ireturn, 1) := by decide +kernel
theorem dX12_pours_0 : decode cX12_pours 0 = .ok (.aload_n 0, 1) := by decide +kernel
theorem dX12_pours_1 : decode cX12_pours 1 = .ok (.getfield 117, 3) := by decide +kernel
theorem dX12_pours_4 : decode cX12_pours 4 = .ok (.iconst 5, 1) := by decide +kernel
theorem dX12_pours_5 : decode cX12_pours 5 = .ok (.iload_n 1, 1) := by decide +kernel
theorem dX12_pours_6 : decode cX12_pours 6 = .ok (.iadd, 1) := by decide +kernel
theorem dX12_pours_7 : decode cX12_pours 7 = .ok (.bipush 99, 2) := by decide +kernel
theorem dX12_pours_9 : decode cX12_pours 9 = .ok (.aload_n 0, 1) := by decide +kernel
theorem dX12_pours_10 : decode cX12_pours 10 = .ok (.getfield 117, 3) := by decide +kernel
theorem dX12_pours_13 : decode cX12_pours 13 = .ok (.iconst 5, 1) := by decide +kernel
theorem dX12_pours_14 : decode cX12_pours 14 = .ok (.iload_n 1, 1) := by decide +kernel
theorem dX12_pours_15 : decode cX12_pours 15 = .ok (.iadd, 1) := by decide +kernel
theorem dX12_pours_16 : decode cX12_pours 16 = .ok (.iaload, 1) := by decide +kernel
theorem dX12_pours_17 : decode cX12_pours 17 = .ok (.iload_n 2, 1) := by decide +kernel
theorem dX12_pours_18 : decode cX12_pours 18 = .ok (.iadd, 1) := by decide +kernel
theorem dX12_pours_19 : decode cX12_pours 19 = .ok (.invokestatic 362, 3) := by decide +kernel
theorem dX12_pours_22 : decode cX12_pours 22 = .ok (.iastore, 1) := by decide +kernel
theorem dX12_pours_23 : decode cX12_pours 23 = .ok (.return_, 1) := by decide +kernel
theorem dX12_pour_0 : decode cX12_pour 0 = .ok (.aload_n 0, 1) := by decide +kernel
theorem dX12_pour_1 : decode cX12_pour 1 = .ok (.iconst 0, 1) := by decide +kernel
theorem dX12_pour_2 : decode cX12_pour 2 = .ok (.putfield 147, 3) := by decide +kernel
theorem dX12_pour_5 : decode cX12_pour 5 = .ok (.aload_n 0, 1) := by decide +kernel
theorem dX12_pour_6 : decode cX12_pour 6 = .ok (.iload_n 1, 1) := by decide +kernel
theorem dX12_pour_7 : decode cX12_pour 7 = .ok (.invokevirtual 395, 3) := by decide +kernel
theorem dX12_pour_10 : decode cX12_pour 10 = .ok (.ifCond .eq 13, 3) := by decide +kernel
theorem dX12_pour_13 : decode cX12_pour 13 = .ok (.iload_n 2, 1) := by decide +kernel
theorem dX12_pour_14 : decode cX12_pour 14 = .ok (.iconst 1, 1) := by decide +kernel
theorem dX12_pour_15 : decode cX12_pour 15 = .ok (.bipush 20, 2) := by decide +kernel
theorem dX12_pour_17 : decode cX12_pour 17 = .ok (.invokestatic 268, 3) := by decide +kernel
theorem dX12_pour_20 : decode cX12_pour 20 = .ok (.ifCond .ne 5, 3) := by decide +kernel
theorem dX12_pour_23 : decode cX12_pour 23 = .ok (.iconst (-1), 1) := by decide +kernel
theorem dX12_pour_24 : decode cX12_pour 24 = .ok (.ireturn, 1) := by decide +kernel
theorem dX12_pour_25 : decode cX12_pour 25 = .ok (.aload_n 0, 1) := by decide +kernel
theorem dX12_pour_26 : decode cX12_pour 26 = .ok (.invokevirtual 405, 3) := by decide +kernel
theorem dX12_pour_29 : decode cX12_pour 29 = .ok (.aload_n 0, 1) := by decide +kernel
theorem dX12_pour_30 : decode cX12_pour 30 = .ok (.iload_n 1, 1) := by decide +kernel
theorem dX12_pour_31 : decode cX12_pour 31 = .ok (.iload_n 2, 1) := by decide +kernel
theorem dX12_pour_32 : decode cX12_pour 32 = .ok (.invokevirtual 411, 3) := by decide +kernel
theorem dX12_pour_35 : decode cX12_pour 35 = .ok (.aload_n 0, 1) := by decide +kernel
theorem dX12_pour_36 : decode cX12_pour 36 = .ok (.getfield 117, 3) := by decide +kernel
theorem dX12_pour_39 : decode cX12_pour 39 = .ok (.iconst 5, 1) := by decide +kernel
theorem dX12_pour_40 : decode cX12_pour 40 = .ok (.iload_n 1, 1) := by decide +kernel
theorem dX12_pour_41 : decode cX12_pour 41 = .ok (.iadd, 1) := by decide +kernel
theorem dX12_pour_42 : decode cX12_pour 42 = .ok (.iaload, 1) := by decide +kernel
theorem dX12_pour_43 : decode cX12_pour 43 = .ok (.ireturn, 1) := by decide +kernel
theorem dX12_stop_0 : decode cX12_stop 0 = .ok (.aload_n 0, 1) := by decide +kernel
theorem dX12_stop_1 : decode cX12_stop 1 = .ok (.iconst 0, 1) := by decide +kernel
theorem dX12_stop_2 : decode cX12_stop 2 = .ok (.putfield 147, 3) := by decide +kernel
theorem dX12_stop_5 : decode cX12_stop 5 = .ok (.aload_n 0, 1) := by decide +kernel
theorem dX12_stop_6 : decode cX12_stop 6 = .ok (.iload_n 1, 1) := by decide +kernel
theorem dX12_stop_7 : decode cX12_stop 7 = .ok (.invokevirtual 395, 3) := by decide +kernel
theorem dX12_stop_10 : decode cX12_stop 10 = .ok (.ifCond .eq 11, 3) := by decide +kernel
theorem dX12_stop_13 : decode cX12_stop 13 = .ok (.aload_n 0, 1) := by decide +kernel
theorem dX12_stop_14 : decode cX12_stop 14 = .ok (.iload_n 1, 1) := by decide +kernel
theorem dX12_stop_15 : decode cX12_stop 15 = .ok (.invokevirtual 359, 3) := by decide +kernel
theorem dX12_stop_18 : decode cX12_stop 18 = .ok (.ifCond .eq 5, 3) := by decide +kernel
theorem dX12_stop_21 : decode cX12_stop 21 = .ok (.iconst 0, 1) := by decide +kernel
theorem dX12_stop_22 : decode cX12_stop 22 = .ok (.ireturn, 1) := by decide +kernel
theorem dX12_stop_23 : decode cX12_stop 23 = .ok (.aload_n 0, 1) := by decide +kernel
theorem dX12_stop_24 : decode cX12_stop 24 = .ok (.invokevirtual 405, 3) := by decide +kernel
theorem dX12_stop_27 : decode cX12_stop 27 = .ok (.aload_n 0, 1) := by decide +kernel
theorem dX12_stop_28 : decode cX12_stop 28 = .ok (.getfield 117, 3) := by decide +kernel
theorem dX12_stop_31 : decode cX12_stop 31 = .ok (.iconst 1, 1) := by decide +kernel
theorem dX12_stop_32 : decode cX12_stop 32 = .ok (.dup2, 1) := by decide +kernel
theorem dX12_stop_33 : decode cX12_stop 33 = .ok (.iaload, 1) := by decide +kernel
theorem dX12_stop_34 : decode cX12_stop 34 = .ok (.iconst 1, 1) := by decide +kernel
theorem dX12_stop_35 : decode cX12_stop 35 = .ok (.iload_n 1, 1) := by decide +kernel
theorem dX12_stop_36 : decode cX12_stop 36 = .ok (.ishl, 1) := by decide +kernel
theorem dX12_stop_37 : decode cX12_stop 37 = .ok (.ixor, 1) := by decide +kernel
theorem dX12_stop_38 : decode cX12_stop 38 = .ok (.iastore, 1) := by decide +kernel
theorem dX12_stop_39 : decode cX12_stop 39 = .ok (.iconst 1, 1) := by decide +kernel
theorem dX12_stop_40 : decode cX12_stop 40 = .ok (.ireturn, 1) := by decide +kernel
theorem dX12_clear_0 : decode cX12_clear 0 = .ok (.aload_n 0, 1) := by decide +kernel
theorem dX12_clear_1 : decode cX12_clear 1 = .ok (.iconst 0, 1) := by decide +kernel
theorem dX12_clear_2 : decode cX12_clear 2 = .ok (.putfield 147, 3) := by decide +kernel
theorem dX12_clear_5 : decode cX12_clear 5 = .ok (.aload_n 0, 1) := by decide +kernel
theorem dX12_clear_6 : decode cX12_clear 6 = .ok (.iload_n 1, 1) := by decide +kernel
theorem dX12_clear_7 : decode cX12_clear 7 = .ok (.invokevirtual 395, 3) := by decide +kernel
theorem dX12_clear_10 : decode cX12_clear 10 = .ok (.ifCond .eq 11, 3) := by decide +kernel
theorem dX12_clear_13 : decode cX12_clear 13 = .ok (.aload_n 0, 1) := by decide +kernel
theorem dX12_clear_14 : decode cX12_clear 14 = .ok (.iload_n 1, 1) := by decide +kernel
theorem dX12_clear_15 : decode cX12_clear 15 = .ok (.invokevirtual 359, 3) := by decide +kernel
theorem dX12_clear_18 : decode cX12_clear 18 = .ok (.ifCond .ne 5, 3) := by decide +kernel
theorem dX12_clear_21 : decode cX12_clear 21 = .ok (.iconst 0, 1) := by decide +kernel
theorem dX12_clear_22 : decode cX12_clear 22 = .ok (.ireturn, 1) := by decide +kernel
theorem dX12_clear_23 : decode cX12_clear 23 = .ok (.aload_n 0, 1) := by decide +kernel
theorem dX12_clear_24 : decode cX12_clear 24 = .ok (.invokevirtual 405, 3) := by decide +kernel
theorem dX12_clear_27 : decode cX12_clear 27 = .ok (.aload_n 0, 1) := by decide +kernel
theorem dX12_clear_28 : decode cX12_clear 28 = .ok (.getfield 117, 3) := by decide +kernel
theorem dX12_clear_31 : decode cX12_clear 31 = .ok (.iconst 1, 1) := by decide +kernel
theorem dX12_clear_32 : decode cX12_clear 32 = .ok (.dup2, 1) := by decide +kernel
theorem dX12_clear_33 : decode cX12_clear 33 = .ok (.iaload, 1) := by decide +kernel
theorem dX12_clear_34 : decode cX12_clear 34 = .ok (.iconst 1, 1) := by decide +kernel
theorem dX12_clear_35 : decode cX12_clear 35 = .ok (.iload_n 1, 1) := by decide +kernel
theorem dX12_clear_36 : decode cX12_clear 36 = .ok (.ishl, 1) := by decide +kernel
theorem dX12_clear_37 : decode cX12_clear 37 = .ok (.ixor, 1) := by decide +kernel
theorem dX12_clear_38 : decode cX12_clear 38 = .ok (.iastore, 1) := by decide +kernel
theorem dX12_clear_39 : decode cX12_clear 39 = .ok (.iconst 1, 1) := by decide +kernel
theorem dX12_clear_40 : decode cX12_clear 40 = .ok (.ireturn, 1) := by decide +kernel
theorem dX12_undo_0 : decode cX12_undo 0 = .ok (.aload_n 0, 1) := by decide +kernel
theorem dX12_undo_1 : decode cX12_undo 1 = .ok (.iconst 0, 1) := by decide +kernel
theorem dX12_undo_2 : decode cX12_undo 2 = .ok (.putfield 147, 3) := by decide +kernel
theorem dX12_undo_5 : decode cX12_undo 5 = .ok (.aload_n 0, 1) := by decide +kernel
theorem dX12_undo_6 : decode cX12_undo 6 = .ok (.getfield 343, 3) := by decide +kernel
theorem dX12_undo_9 : decode cX12_undo 9 = .ok (.ifCond .ne 5, 3) := by decide +kernel
theorem dX12_undo_12 : decode cX12_undo 12 = .ok (.iconst 0, 1) := by decide +kernel
theorem dX12_undo_13 : decode cX12_undo 13 = .ok (.ireturn, 1) := by decide +kernel
theorem dX12_undo_14 : decode cX12_undo 14 = .ok (.aload_n 0, 1) := by decide +kernel
theorem dX12_undo_15 : decode cX12_undo 15 = .ok (.dup, 1) := by decide +kernel
theorem dX12_undo_16 : decode cX12_undo 16 = .ok (.getfield 343, 3) := by decide +kernel
theorem dX12_undo_19 : decode cX12_undo 19 = .ok (.iconst 1, 1) := by decide +kernel
theorem dX12_undo_20 : decode cX12_undo 20 = .ok (.isub, 1) := by decide +kernel
theorem dX12_undo_21 : decode cX12_undo 21 = .ok (.putfield 343, 3) := by decide +kernel
theorem dX12_undo_24 : decode cX12_undo 24 = .ok (.aload_n 0, 1) := by decide +kernel
theorem dX12_undo_25 : decode cX12_undo 25 = .ok (.getfield 129, 3) := by decide +kernel
theorem dX12_undo_28 : decode cX12_undo 28 = .ok (.bipush 59, 2) := by decide +kernel
theorem dX12_undo_30 : decode cX12_undo 30 = .ok (.aload_n 0, 1) := by decide +kernel
theorem dX12_undo_31 : decode cX12_undo 31 = .ok (.getfield 343, 3) := by decide +kernel
theorem dX12_undo_34 : decode cX12_undo 34 = .ok (.imul, 1) := by decide +kernel
theorem dX12_undo_35 : decode cX12_undo 35 = .ok (.aload_n 0, 1) := by decide +kernel
theorem dX12_undo_36 : decode cX12_undo 36 = .ok (.getfield 117, 3) := by decide +kernel
theorem dX12_undo_39 : decode cX12_undo 39 = .ok (.iconst 0, 1) := by decide +kernel
theorem dX12_undo_40 : decode cX12_undo 40 = .ok (.invokestatic 401, 3) := by decide +kernel
theorem dX12_undo_43 : decode cX12_undo 43 = .ok (.iconst 1, 1) := by decide +kernel
theorem dX12_undo_44 : decode cX12_undo 44 = .ok (.ireturn, 1) := by decide +kernel
theorem dX12_holesNow_0 : decode cX12_holesNow 0 = .ok (.iconst 0, 1) := by decide +kernel
theorem dX12_holesNow_1 : decode cX12_holesNow 1 = .ok (.istore_n 1, 1) := by decide +kernel
theorem dX12_holesNow_2 : decode cX12_holesNow 2 = .ok (.iconst 0, 1) := by decide +kernel
theorem dX12_holesNow_3 : decode cX12_holesNow 3 = .ok (.istore_n 2, 1) := by decide +kernel
theorem dX12_holesNow_4 : decode cX12_holesNow 4 = .ok (.iload_n 2, 1) := by decide +kernel
theorem dX12_holesNow_5 : decode cX12_holesNow 5 = .ok (.aload_n 0, 1) := by decide +kernel
theorem dX12_holesNow_6 : decode cX12_holesNow 6 = .ok (.getfield 117, 3) := by decide +kernel
theorem dX12_holesNow_9 : decode cX12_holesNow 9 = .ok (.iconst 4, 1) := by decide +kernel
theorem dX12_holesNow_10 : decode cX12_holesNow 10 = .ok (.iaload, 1) := by decide +kernel
theorem dX12_holesNow_11 : decode cX12_holesNow 11 = .ok (.if_icmp .ge 31, 3) := by decide +kernel
theorem dX12_holesNow_14 : decode cX12_holesNow 14 = .ok (.iload_n 1, 1) := by decide +kernel
theorem dX12_holesNow_15 : decode cX12_holesNow 15 = .ok (.aload_n 0, 1) := by decide +kernel
theorem dX12_holesNow_16 : decode cX12_holesNow 16 = .ok (.getfield 117, 3) := by decide +kernel
theorem dX12_holesNow_19 : decode cX12_holesNow 19 = .ok (.bipush 19, 2) := by decide +kernel
theorem dX12_holesNow_21 : decode cX12_holesNow 21 = .ok (.iload_n 2, 1) := by decide +kernel
theorem dX12_holesNow_22 : decode cX12_holesNow 22 = .ok (.iadd, 1) := by decide +kernel
theorem dX12_holesNow_23 : decode cX12_holesNow 23 = .ok (.iaload, 1) := by decide +kernel
theorem dX12_holesNow_24 : decode cX12_holesNow 24 = .ok (.bipush 6, 2) := by decide +kernel
theorem dX12_holesNow_26 : decode cX12_holesNow 26 = .ok (.if_icmp .ne 7, 3) := by decide +kernel
theorem dX12_holesNow_29 : decode cX12_holesNow 29 = .ok (.iconst 1, 1) := by decide +kernel
theorem dX12_holesNow_30 : decode cX12_holesNow 30 = .ok (.goto 4, 3) := by decide +kernel
theorem dX12_holesNow_33 : decode cX12_holesNow 33 = .ok (.iconst 0, 1) := by decide +kernel
theorem dX12_holesNow_34 : decode cX12_holesNow 34 = .ok (.iadd, 1) := by decide +kernel
theorem dX12_holesNow_35 : decode cX12_holesNow 35 = .ok (.istore_n 1, 1) := by decide +kernel
theorem dX12_holesNow_36 : decode cX12_holesNow 36 = .ok (.iinc 2 1, 3) := by decide +kernel
theorem dX12_holesNow_39 : decode cX12_holesNow 39 = .ok (.goto (-35), 3) := by decide +kernel
theorem dX12_holesNow_42 : decode cX12_holesNow 42 = .ok (.iload_n 1, 1) := by decide +kernel
theorem dX12_holesNow_43 : decode cX12_holesNow 43 = .ok (.ireturn, 1) := by decide +kernel
theorem dX12_judged_0 : decode cX12_judged 0 = .ok (.aload_n 0, 1) := by decide +kernel
theorem dX12_judged_1 : decode cX12_judged 1 = .ok (.iconst 0, 1) := by decide +kernel
theorem dX12_judged_2 : decode cX12_judged 2 = .ok (.putfield 147, 3) := by decide +kernel
theorem dX12_judged_5 : decode cX12_judged 5 = .ok (.iload_n 1, 1) := by decide +kernel
theorem dX12_judged_6 : decode cX12_judged 6 = .ok (.iconst 0, 1) := by decide +kernel
theorem dX12_judged_7 : decode cX12_judged 7 = .ok (.iconst 2, 1) := by decide +kernel
theorem dX12_judged_8 : decode cX12_judged 8 = .ok (.invokestatic 268, 3) := by decide +kernel
theorem dX12_judged_11 : decode cX12_judged 11 = .ok (.ifCond .ne 6, 3) := by decide +kernel
theorem dX12_judged_14 : decode cX12_judged 14 = .ok (.bipush (-2), 2) := by decide +kernel
theorem dX12_judged_16 : decode cX12_judged 16 = .ok (.ireturn, 1) := by decide +kernel
theorem dX12_judged_17 : decode cX12_judged 17 = .ok (.aload_n 0, 1) := by decide +kernel
theorem dX12_judged_18 : decode cX12_judged 18 = .ok (.getfield 117, 3) := by decide +kernel
theorem dX12_judged_21 : decode cX12_judged 21 = .ok (.iconst 0, 1) := by decide +kernel
theorem dX12_judged_22 : decode cX12_judged 22 = .ok (.aload_n 0, 1) := by decide +kernel
theorem dX12_judged_23 : decode cX12_judged 23 = .ok (.getfield 120, 3) := by decide +kernel
theorem dX12_judged_26 : decode cX12_judged 26 = .ok (.iconst 0, 1) := by decide +kernel
theorem dX12_judged_27 : decode cX12_judged 27 = .ok (.invokestatic 401, 3) := by decide +kernel
theorem dX12_judged_30 : decode cX12_judged 30 = .ok (.aload_n 0, 1) := by decide +kernel
theorem dX12_judged_31 : decode cX12_judged 31 = .ok (.invokevirtual 144, 3) := by decide +kernel
theorem dX12_judged_34 : decode cX12_judged 34 = .ok (.iconst (-1), 1) := by decide +kernel
theorem dX12_judged_35 : decode cX12_judged 35 = .ok (.istore_n 2, 1) := by decide +kernel
theorem dX12_judged_36 : decode cX12_judged 36 = .ok (.iconst (-1), 1) := by decide +kernel
theorem dX12_judged_37 : decode cX12_judged 37 = .ok (.istore_n 3, 1) := by decide +kernel
theorem dX12_judged_38 : decode cX12_judged 38 = .ok (.iconst 0, 1) := by decide +kernel
theorem dX12_judged_39 : decode cX12_judged 39 = .ok (.istore 4, 2) := by decide +kernel
theorem dX12_judged_41 : decode cX12_judged 41 = .ok (.iload 4, 2) := by decide +kernel
theorem dX12_judged_43 : decode cX12_judged 43 = .ok (.aload_n 0, 1) := by decide +kernel
theorem dX12_judged_44 : decode cX12_judged 44 = .ok (.getfield 90, 3) := by decide +kernel
theorem dX12_judged_47 : decode cX12_judged 47 = .ok (.iconst 0, 1) := by decide +kernel
theorem dX12_judged_48 : decode cX12_judged 48 = .ok (.iaload, 1) := by decide +kernel
theorem dX12_judged_49 : decode cX12_judged 49 = .ok (.if_icmp .ge 125, 3) := by decide +kernel
theorem dX12_judged_52 : decode cX12_judged 52 = .ok (.aload_n 0, 1) := by decide +kernel
theorem dX12_judged_53 : decode cX12_judged 53 = .ok (.getfield 96, 3) := by decide +kernel
theorem dX12_judged_56 : decode cX12_judged 56 = .ok (.iload 4, 2) := by decide +kernel
theorem dX12_judged_58 : decode cX12_judged 58 = .ok (.iaload, 1) := by decide +kernel
theorem dX12_judged_59 : decode cX12_judged 59 = .ok (.istore 5, 2) := by decide +kernel
theorem dX12_judged_61 : decode cX12_judged 61 = .ok (.aload_n 0, 1) := by decide +kernel
theorem dX12_judged_62 : decode cX12_judged 62 = .ok (.getfield 93, 3) := by decide +kernel
theorem dX12_judged_65 : decode cX12_judged 65 = .ok (.iload 4, 2) := by decide +kernel
theorem dX12_judged_67 : decode cX12_judged 67 = .ok (.iaload, 1) := by decide +kernel
theorem dX12_judged_68 : decode cX12_judged 68 = .ok (.ifCond .ne 25, 3) := by decide +kernel
theorem dX12_judged_71 : decode cX12_judged 71 = .ok (.aload_n 0, 1) := by decide +kernel
theorem dX12_judged_72 : decode cX12_judged 72 = .ok (.invokevirtual 408, 3) := by decide +kernel
theorem dX12_judged_75 : decode cX12_judged 75 = .ok (.iconst 0, 1) := by decide +kernel
theorem dX12_judged_76 : decode cX12_judged 76 = .ok (.iconst 5, 1) := by decide +kernel
theorem dX12_judged_77 : decode cX12_judged 77 = .ok (.invokestatic 268, 3) := by decide +kernel
theorem dX12_judged_80 : decode cX12_judged 80 = .ok (.ifCond .eq 88, 3) := by decide +kernel
theorem dX12_judged_83 : decode cX12_judged 83 = .ok (.iload_n 3, 1) := by decide +kernel
theorem dX12_judged_84 : decode cX12_judged 84 = .ok (.ifCond .ge 84, 3) := by decide +kernel
theorem dX12_judged_87 : decode cX12_judged 87 = .ok (.iload 4, 2) := by decide +kernel
theorem dX12_judged_89 : decode cX12_judged 89 = .ok (.istore_n 3, 1) := by decide +kernel
theorem dX12_judged_90 : decode cX12_judged 90 = .ok (.goto 78, 3) := by decide +kernel
theorem dX12_judged_93 : decode cX12_judged 93 = .ok (.aload_n 0, 1) := by decide +kernel
theorem dX12_judged_94 : decode cX12_judged 94 = .ok (.getfield 93, 3) := by decide +kernel
theorem dX12_judged_97 : decode cX12_judged 97 = .ok (.iload 4, 2) := by decide +kernel
theorem dX12_judged_99 : decode cX12_judged 99 = .ok (.iaload, 1) := by decide +kernel
theorem dX12_judged_100 : decode cX12_judged 100 = .ok (.iconst 1, 1) := by decide +kernel
theorem dX12_judged_101 : decode cX12_judged 101 = .ok (.if_icmp .ne 19, 3) := by decide +kernel
theorem dX12_judged_104 : decode cX12_judged 104 = .ok (.aload_n 0, 1) := by decide +kernel
theorem dX12_judged_105 : decode cX12_judged 105 = .ok (.iload 5, 2) := by decide +kernel
theorem dX12_judged_107 : decode cX12_judged 107 = .ok (.aload_n 0, 1) := by decide +kernel
theorem dX12_judged_108 : decode cX12_judged 108 = .ok (.getfield 99, 3) := by decide +kernel
theorem dX12_judged_111 : decode cX12_judged 111 = .ok (.iload 4, 2) := by decide +kernel
theorem dX12_judged_113 : decode cX12_judged 113 = .ok (.iaload, 1) := by decide +kernel
theorem dX12_judged_114 : decode cX12_judged 114 = .ok (.invokevirtual 411, 3) := by decide +kernel
theorem dX12_judged_117 : decode cX12_judged 117 = .ok (.goto 51, 3) := by decide +kernel
theorem dX12_judged_120 : decode cX12_judged 120 = .ok (.aload_n 0, 1) := by decide +kernel
theorem dX12_judged_121 : decode cX12_judged 121 = .ok (.iload 5, 2) := by decide +kernel
theorem dX12_judged_123 : decode cX12_judged 123 = .ok (.invokevirtual 359, 3) := by decide +kernel
theorem dX12_judged_126 : decode cX12_judged 126 = .ok (.aload_n 0, 1) := by decide +kernel
theorem dX12_judged_127 : decode cX12_judged 127 = .ok (.getfield 93, 3) := by decide +kernel
theorem dX12_judged_130 : decode cX12_judged 130 = .ok (.iload 4, 2) := by decide +kernel
theorem dX12_judged_132 : decode cX12_judged 132 = .ok (.iaload, 1) := by decide +kernel
theorem dX12_judged_133 : decode cX12_judged 133 = .ok (.iconst 3, 1) := by decide +kernel
theorem dX12_judged_134 : decode cX12_judged 134 = .ok (.if_icmp .ne 7, 3) := by decide +kernel
theorem dX12_judged_137 : decode cX12_judged 137 = .ok (.iconst 1, 1) := by decide +kernel
theorem dX12_judged_138 : decode cX12_judged 138 = .ok (.goto 4, 3) := by decide +kernel
theorem dX12_judged_141 : decode cX12_judged 141 = .ok (.iconst 0, 1) := by decide +kernel
theorem dX12_judged_142 : decode cX12_judged 142 = .ok (.if_icmp .ne 19, 3) := by decide +kernel
theorem dX12_judged_145 : decode cX12_judged 145 = .ok (.aload_n 0, 1) := by decide +kernel
theorem dX12_judged_146 : decode cX12_judged 146 = .ok (.getfield 117, 3) := by decide +kernel
theorem dX12_judged_149 : decode cX12_judged 149 = .ok (.iconst 1, 1) := by decide +kernel
theorem dX12_judged_150 : decode cX12_judged 150 = .ok (.dup2, 1) := by decide +kernel
theorem dX12_judged_151 : decode cX12_judged 151 = .ok (.iaload, 1) := by decide +kernel
theorem dX12_judged_152 : decode cX12_judged 152 = .ok (.iconst 1, 1) := by decide +kernel
theorem dX12_judged_153 : decode cX12_judged 153 = .ok (.iload 5, 2) := by decide +kernel
theorem dX12_judged_155 : decode cX12_judged 155 = .ok (.ishl, 1) := by decide +kernel
theorem dX12_judged_156 : decode cX12_judged 156 = .ok (.ixor, 1) := by decide +kernel
theorem dX12_judged_157 : decode cX12_judged 157 = .ok (.iastore, 1) := by decide +kernel
theorem dX12_judged_158 : decode cX12_judged 158 = .ok (.goto 10, 3) := by decide +kernel
theorem dX12_judged_161 : decode cX12_judged 161 = .ok (.iload_n 2, 1) := by decide +kernel
theorem dX12_judged_162 : decode cX12_judged 162 = .ok (.ifCond .ge 6, 3) := by decide +kernel
theorem dX12_judged_165 : decode cX12_judged 165 = .ok (.iload 4, 2) := by decide +kernel
theorem dX12_judged_167 : decode cX12_judged 167 = .ok (.istore_n 2, 1) := by decide +kernel
theorem dX12_judged_168 : decode cX12_judged 168 = .ok (.iinc 4 1, 3) := by decide +kernel
theorem dX12_judged_171 : decode cX12_judged 171 = .ok (.goto (-130), 3) := by decide +kernel
theorem dX12_judged_174 : decode cX12_judged 174 = .ok (.aload_n 0, 1) := by decide +kernel
theorem dX12_judged_175 : decode cX12_judged 175 = .ok (.invokevirtual 414, 3) := by decide +kernel
theorem dX12_judged_178 : decode cX12_judged 178 = .ok (.istore 4, 2) := by decide +kernel
theorem dX12_judged_180 : decode cX12_judged 180 = .ok (.aload_n 0, 1) := by decide +kernel
theorem dX12_judged_181 : decode cX12_judged 181 = .ok (.getfield 120, 3) := by decide +kernel
theorem dX12_judged_184 : decode cX12_judged 184 = .ok (.iconst 0, 1) := by decide +kernel
theorem dX12_judged_185 : decode cX12_judged 185 = .ok (.aload_n 0, 1) := by decide +kernel
theorem dX12_judged_186 : decode cX12_judged 186 = .ok (.getfield 117, 3) := by decide +kernel
theorem dX12_judged_189 : decode cX12_judged 189 = .ok (.iconst 0, 1) := by decide +kernel
theorem dX12_judged_190 : decode cX12_judged 190 = .ok (.invokestatic 401, 3) := by decide +kernel
theorem dX12_judged_193 : decode cX12_judged 193 = .ok (.iload_n 1, 1) := by decide +kernel
theorem dX12_judged_194 : decode cX12_judged 194 = .ok (.ifCond .ne 7, 3) := by decide +kernel
theorem dX12_judged_197 : decode cX12_judged 197 = .ok (.iload_n 2, 1) := by decide +kernel
theorem dX12_judged_198 : decode cX12_judged 198 = .ok (.goto 14, 3) := by decide +kernel
theorem dX12_judged_201 : decode cX12_judged 201 = .ok (.iload_n 1, 1) := by decide +kernel
theorem dX12_judged_202 : decode cX12_judged 202 = .ok (.iconst 1, 1) := by decide +kernel
theorem dX12_judged_203 : decode cX12_judged 203 = .ok (.if_icmp .ne 7, 3) := by decide +kernel
theorem dX12_judged_206 : decode cX12_judged 206 = .ok (.iload_n 3, 1) := by decide +kernel
theorem dX12_judged_207 : decode cX12_judged 207 = .ok (.goto 5, 3) := by decide +kernel
theorem dX12_judged_210 : decode cX12_judged 210 = .ok (.iload 4, 2) := by decide +kernel
theorem dX12_judged_212 : decode cX12_judged 212 = .ok (.ireturn, 1) := by decide +kernel
theorem dX12_later_0 : decode cX12_later 0 = .ok (.aload_n 0, 1) := by decide +kernel
theorem dX12_later_1 : decode cX12_later 1 = .ok (.iconst 0, 1) := by decide +kernel
theorem dX12_later_2 : decode cX12_later 2 = .ok (.putfield 147, 3) := by decide +kernel
theorem dX12_later_5 : decode cX12_later 5 = .ok (.aload_n 0, 1) := by decide +kernel
theorem dX12_later_6 : decode cX12_later 6 = .ok (.iload_n 1, 1) := by decide +kernel
theorem dX12_later_7 : decode cX12_later 7 = .ok (.invokevirtual 395, 3) := by decide +kernel
theorem dX12_later_10 : decode cX12_later 10 = .ok (.ifCond .eq 13, 3) := by decide +kernel
theorem dX12_later_13 : decode cX12_later 13 = .ok (.iload_n 2, 1) := by decide +kernel
theorem dX12_later_14 : decode cX12_later 14 = .ok (.iconst 0, 1) := by decide +kernel
theorem dX12_later_15 : decode cX12_later 15 = .ok (.bipush 60, 2) := by decide +kernel
theorem dX12_later_17 : decode cX12_later 17 = .ok (.invokestatic 268, 3) := by decide +kernel
theorem dX12_later_20 : decode cX12_later 20 = .ok (.ifCond .ne 5, 3) := by decide +kernel
theorem dX12_later_23 : decode cX12_later 23 = .ok (.iconst (-1), 1) := by decide +kernel
theorem dX12_later_24 : decode cX12_later 24 = .ok (.ireturn, 1) := by decide +kernel
theorem dX12_later_25 : decode cX12_later 25 = .ok (.aload_n 0, 1) := by decide +kernel
theorem dX12_later_26 : decode cX12_later 26 = .ok (.getfield 117, 3) := by decide +kernel
theorem dX12_later_29 : decode cX12_later 29 = .ok (.iconst 0, 1) := by decide +kernel
theorem dX12_later_30 : decode cX12_later 30 = .ok (.aload_n 0, 1) := by decide +kernel
theorem dX12_later_31 : decode cX12_later 31 = .ok (.getfield 123, 3) := by decide +kernel
theorem dX12_later_34 : decode cX12_later 34 = .ok (.iconst 0, 1) := by decide +kernel
theorem dX12_later_35 : decode cX12_later 35 = .ok (.invokestatic 401, 3) := by decide +kernel
theorem dX12_later_38 : decode cX12_later 38 = .ok (.iconst 0, 1) := by decide +kernel
theorem dX12_later_39 : decode cX12_later 39 = .ok (.istore_n 3, 1) := by decide +kernel
theorem dX12_later_40 : decode cX12_later 40 = .ok (.iload_n 3, 1) := by decide +kernel
theorem dX12_later_41 : decode cX12_later 41 = .ok (.iload_n 2, 1) := by decide +kernel
theorem dX12_later_42 : decode cX12_later 42 = .ok (.if_icmp .ge 14, 3) := by decide +kernel
theorem dX12_later_45 : decode cX12_later 45 = .ok (.aload_n 0, 1) := by decide +kernel
theorem dX12_later_46 : decode cX12_later 46 = .ok (.invokevirtual 408, 3) := by decide +kernel
theorem dX12_later_49 : decode cX12_later 49 = .ok (.pop, 1) := by decide +kernel
theorem dX12_later_50 : decode cX12_later 50 = .ok (.iinc 3 1, 3) := by decide +kernel
theorem dX12_later_53 : decode cX12_later 53 = .ok (.goto (-13), 3) := by decide +kernel
theorem dX12_later_56 : decode cX12_later 56 = .ok (.aload_n 0, 1) := by decide +kernel
theorem dX12_later_57 : decode cX12_later 57 = .ok (.getfield 117, 3) := by decide +kernel
theorem dX12_later_60 : decode cX12_later 60 = .ok (.iconst 5, 1) := by decide +kernel
theorem dX12_later_61 : decode cX12_later 61 = .ok (.iload_n 1, 1) := by decide +kernel
theorem dX12_later_62 : decode cX12_later 62 = .ok (.iadd, 1) := by decide +kernel
theorem dX12_later_63 : decode cX12_later 63 = .ok (.iaload, 1) := by decide +kernel
theorem dX12_later_64 : decode cX12_later 64 = .ok (.istore_n 3, 1) := by decide +kernel
theorem dX12_later_65 : decode cX12_later 65 = .ok (.aload_n 0, 1) := by decide +kernel
theorem dX12_later_66 : decode cX12_later 66 = .ok (.getfield 123, 3) := by decide +kernel
theorem dX12_later_69 : decode cX12_later 69 = .ok (.iconst 0, 1) := by decide +kernel
theorem dX12_later_70 : decode cX12_later 70 = .ok (.aload_n 0, 1) := by decide +kernel
theorem dX12_later_71 : decode cX12_later 71 = .ok (.getfield 117, 3) := by decide +kernel
theorem dX12_later_74 : decode cX12_later 74 = .ok (.iconst 0, 1) := by decide +kernel
theorem dX12_later_75 : decode cX12_later 75 = .ok (.invokestatic 401, 3) := by decide +kernel
theorem dX12_later_78 : decode cX12_later 78 = .ok (.iload_n 3, 1) := by decide +kernel
theorem dX12_later_79 : decode cX12_later 79 = .ok (.ireturn, 1) := by decide +kernel
theorem dX12_reads_0 : decode cX12_reads 0 = .ok (.aload_n 0, 1) := by decide +kernel
theorem dX12_reads_1 : decode cX12_reads 1 = .ok (.iconst 0, 1) := by decide +kernel
theorem dX12_reads_2 : decode cX12_reads 2 = .ok (.putfield 147, 3) := by decide +kernel
theorem dX12_reads_5 : decode cX12_reads 5 = .ok (.iload_n 1, 1) := by decide +kernel
theorem dX12_reads_6 : decode cX12_reads 6 = .ok (.iconst 1, 1) := by decide +kernel
theorem dX12_reads_7 : decode cX12_reads 7 = .ok (.bipush 60, 2) := by decide +kernel
theorem dX12_reads_9 : decode cX12_reads 9 = .ok (.invokestatic 268, 3) := by decide +kernel
theorem dX12_reads_12 : decode cX12_reads 12 = .ok (.ifCond .ne 6, 3) := by decide +kernel
theorem dX12_reads_15 : decode cX12_reads 15 = .ok (.bipush (-2), 2) := by decide +kernel
theorem dX12_reads_17 : decode cX12_reads 17 = .ok (.ireturn, 1) := by decide +kernel
theorem dX12_reads_18 : decode cX12_reads 18 = .ok (.aload_n 0, 1) := by decide +kernel
theorem dX12_reads_19 : decode cX12_reads 19 = .ok (.getfield 117, 3) := by decide +kernel
theorem dX12_reads_22 : decode cX12_reads 22 = .ok (.iconst 0, 1) := by decide +kernel
theorem dX12_reads_23 : decode cX12_reads 23 = .ok (.aload_n 0, 1) := by decide +kernel
theorem dX12_reads_24 : decode cX12_reads 24 = .ok (.getfield 123, 3) := by decide +kernel
theorem dX12_reads_27 : decode cX12_reads 27 = .ok (.iconst 0, 1) := by decide +kernel
theorem dX12_reads_28 : decode cX12_reads 28 = .ok (.invokestatic 401, 3) := by decide +kernel
theorem dX12_reads_31 : decode cX12_reads 31 = .ok (.iconst (-1), 1) := by decide +kernel
theorem dX12_reads_32 : decode cX12_reads 32 = .ok (.istore_n 2, 1) := by decide +kernel
theorem dX12_reads_33 : decode cX12_reads 33 = .ok (.iconst 0, 1) := by decide +kernel
theorem dX12_reads_34 : decode cX12_reads 34 = .ok (.istore_n 3, 1) := by decide +kernel
theorem dX12_reads_35 : decode cX12_reads 35 = .ok (.iload_n 3, 1) := by decide +kernel
theorem dX12_reads_36 : decode cX12_reads 36 = .ok (.iload_n 1, 1) := by decide +kernel
theorem dX12_reads_37 : decode cX12_reads 37 = .ok (.if_icmp .ge 14, 3) := by decide +kernel
theorem dX12_reads_40 : decode cX12_reads 40 = .ok (.aload_n 0, 1) := by decide +kernel
theorem dX12_reads_41 : decode cX12_reads 41 = .ok (.invokevirtual 408, 3) := by decide +kernel
theorem dX12_reads_44 : decode cX12_reads 44 = .ok (.istore_n 2, 1) := by decide +kernel
theorem dX12_reads_45 : decode cX12_reads 45 = .ok (.iinc 3 1, 3) := by decide +kernel
theorem dX12_reads_48 : decode cX12_reads 48 = .ok (.goto (-13), 3) := by decide +kernel
theorem dX12_reads_51 : decode cX12_reads 51 = .ok (.aload_n 0, 1) := by decide +kernel
theorem dX12_reads_52 : decode cX12_reads 52 = .ok (.getfield 123, 3) := by decide +kernel
theorem dX12_reads_55 : decode cX12_reads 55 = .ok (.iconst 0, 1) := by decide +kernel
theorem dX12_reads_56 : decode cX12_reads 56 = .ok (.aload_n 0, 1) := by decide +kernel
theorem dX12_reads_57 : decode cX12_reads 57 = .ok (.getfield 117, 3) := by decide +kernel
theorem dX12_reads_60 : decode cX12_reads 60 = .ok (.iconst 0, 1) := by decide +kernel
theorem dX12_reads_61 : decode cX12_reads 61 = .ok (.invokestatic 401, 3) := by decide +kernel
theorem dX12_reads_64 : decode cX12_reads 64 = .ok (.iload_n 2, 1) := by decide +kernel
theorem dX12_reads_65 : decode cX12_reads 65 = .ok (.ireturn, 1) := by decide +kernel
theorem dX12_when_0 : decode cX12_when 0 = .ok (.aload_n 0, 1) := by decide +kernel
theorem dX12_when_1 : decode cX12_when 1 = .ok (.iconst 0, 1) := by decide +kernel
theorem dX12_when_2 : decode cX12_when 2 = .ok (.putfield 147, 3) := by decide +kernel
theorem dX12_when_5 : decode cX12_when 5 = .ok (.aload_n 0, 1) := by decide +kernel
theorem dX12_when_6 : decode cX12_when 6 = .ok (.iload_n 1, 1) := by decide +kernel
theorem dX12_when_7 : decode cX12_when 7 = .ok (.invokevirtual 398, 3) := by decide +kernel
theorem dX12_when_10 : decode cX12_when 10 = .ok (.ifCond .ne 5, 3) := by decide +kernel
theorem dX12_when_13 : decode cX12_when 13 = .ok (.iconst (-1), 1) := by decide +kernel
theorem dX12_when_14 : decode cX12_when 14 = .ok (.ireturn, 1) := by decide +kernel
theorem dX12_when_15 : decode cX12_when 15 = .ok (.aload_n 0, 1) := by decide +kernel
theorem dX12_when_16 : decode cX12_when 16 = .ok (.getfield 117, 3) := by decide +kernel
theorem dX12_when_19 : decode cX12_when 19 = .ok (.iconst 0, 1) := by decide +kernel
theorem dX12_when_20 : decode cX12_when 20 = .ok (.aload_n 0, 1) := by decide +kernel
theorem dX12_when_21 : decode cX12_when 21 = .ok (.getfield 123, 3) := by decide +kernel
theorem dX12_when_24 : decode cX12_when 24 = .ok (.iconst 0, 1) := by decide +kernel
theorem dX12_when_25 : decode cX12_when 25 = .ok (.invokestatic 401, 3) := by decide +kernel
theorem dX12_when_28 : decode cX12_when 28 = .ok (.iconst 1, 1) := by decide +kernel
theorem dX12_when_29 : decode cX12_when 29 = .ok (.istore_n 2, 1) := by decide +kernel
theorem dX12_when_30 : decode cX12_when 30 = .ok (.iload_n 2, 1) := by decide +kernel
theorem dX12_when_31 : decode cX12_when 31 = .ok (.bipush 60, 2) := by decide +kernel
theorem dX12_when_33 : decode cX12_when 33 = .ok (.if_icmp .gt 17, 3) := by decide +kernel
theorem dX12_when_36 : decode cX12_when 36 = .ok (.aload_n 0, 1) := by decide +kernel
theorem dX12_when_37 : decode cX12_when 37 = .ok (.invokevirtual 408, 3) := by decide +kernel
theorem dX12_when_40 : decode cX12_when 40 = .ok (.iload_n 1, 1) := by decide +kernel
theorem dX12_when_41 : decode cX12_when 41 = .ok (.if_icmp .eq 9, 3) := by decide +kernel
theorem dX12_when_44 : decode cX12_when 44 = .ok (.iinc 2 1, 3) := by decide +kernel
theorem dX12_when_47 : decode cX12_when 47 = .ok (.goto (-17), 3) := by decide +kernel
theorem dX12_when_50 : decode cX12_when 50 = .ok (.aload_n 0, 1) := by decide +kernel
theorem dX12_when_51 : decode cX12_when 51 = .ok (.getfield 123, 3) := by decide +kernel
theorem dX12_when_54 : decode cX12_when 54 = .ok (.iconst 0, 1) := by decide +kernel
theorem dX12_when_55 : decode cX12_when 55 = .ok (.aload_n 0, 1) := by decide +kernel
theorem dX12_when_56 : decode cX12_when 56 = .ok (.getfield 117, 3) := by decide +kernel
theorem dX12_when_59 : decode cX12_when 59 = .ok (.iconst 0, 1) := by decide +kernel
theorem dX12_when_60 : decode cX12_when 60 = .ok (.invokestatic 401, 3) := by decide +kernel
theorem dX12_when_63 : decode cX12_when 63 = .ok (.iload_n 2, 1) := by decide +kernel
theorem dX12_when_64 : decode cX12_when 64 = .ok (.bipush 60, 2) := by decide +kernel
theorem dX12_when_66 : decode cX12_when 66 = .ok (.if_icmp .le 7, 3) := by decide +kernel
theorem dX12_when_69 : decode cX12_when 69 = .ok (.iconst (-1), 1) := by decide +kernel
theorem dX12_when_70 : decode cX12_when 70 = .ok (.goto 4, 3) := by decide +kernel
theorem dX12_when_73 : decode cX12_when 73 = .ok (.iload_n 2, 1) := by decide +kernel
theorem dX12_when_74 : decode cX12_when 74 = .ok (.ireturn, 1) := by decide +kernel
theorem dX12_allStands_0 : decode cX12_allStands 0 = .ok (.iconst 0, 1) := by decide +kernel
theorem dX12_allStands_1 : decode cX12_allStands 1 = .ok (.istore_n 1, 1) := by decide +kernel
theorem dX12_allStands_2 : decode cX12_allStands 2 = .ok (.iconst 0, 1) := by decide +kernel
theorem dX12_allStands_3 : decode cX12_allStands 3 = .ok (.istore_n 2, 1) := by decide +kernel
theorem dX12_allStands_4 : decode cX12_allStands 4 = .ok (.iload_n 2, 1) := by decide +kernel
theorem dX12_allStands_5 : decode cX12_allStands 5 = .ok (.bipush 7, 2) := by decide +kernel
theorem dX12_allStands_7 : decode cX12_allStands 7 = .ok (.if_icmp .ge 20, 3) := by decide +kernel
theorem dX12_allStands_10 : decode cX12_allStands 10 = .ok (.iload_n 1, 1) := by decide +kernel
theorem dX12_allStands_11 : decode cX12_allStands 11 = .ok (.aload_n 0, 1) := by decide +kernel
theorem dX12_allStands_12 : decode cX12_allStands 12 = .ok (.getfield 117, 3) := by decide +kernel
theorem dX12_allStands_15 : decode cX12_allStands 15 = .ok (.iconst 5, 1) := by decide +kernel
theorem dX12_allStands_16 : decode cX12_allStands 16 = .ok (.iload_n 2, 1) := by decide +kernel
theorem dX12_allStands_17 : decode cX12_allStands 17 = .ok (.iadd, 1) := by decide +kernel
theorem dX12_allStands_18 : decode cX12_allStands 18 = .ok (.iaload, 1) := by decide +kernel
theorem dX12_allStands_19 : decode cX12_allStands 19 = .ok (.iadd, 1) := by decide +kernel
theorem dX12_allStands_20 : decode cX12_allStands 20 = .ok (.istore_n 1, 1) := by decide +kernel
theorem dX12_allStands_21 : decode cX12_allStands 21 = .ok (.iinc 2 1, 3) := by decide +kernel
theorem dX12_allStands_24 : decode cX12_allStands 24 = .ok (.goto (-20), 3) := by decide +kernel
theorem dX12_allStands_27 : decode cX12_allStands 27 = .ok (.iload_n 1, 1) := by decide +kernel
theorem dX12_allStands_28 : decode cX12_allStands 28 = .ok (.ireturn, 1) := by decide +kernel
theorem dX12_dry_0 : decode cX12_dry 0 = .ok (.aload_n 0, 1) := by decide +kernel
theorem dX12_dry_1 : decode cX12_dry 1 = .ok (.iconst 0, 1) := by decide +kernel
theorem dX12_dry_2 : decode cX12_dry 2 = .ok (.putfield 147, 3) := by decide +kernel
theorem dX12_dry_5 : decode cX12_dry 5 = .ok (.aload_n 0, 1) := by decide +kernel
theorem dX12_dry_6 : decode cX12_dry 6 = .ok (.getfield 117, 3) := by decide +kernel
theorem dX12_dry_9 : decode cX12_dry 9 = .ok (.iconst 0, 1) := by decide +kernel
theorem dX12_dry_10 : decode cX12_dry 10 = .ok (.aload_n 0, 1) := by decide +kernel
theorem dX12_dry_11 : decode cX12_dry 11 = .ok (.getfield 123, 3) := by decide +kernel
theorem dX12_dry_14 : decode cX12_dry 14 = .ok (.iconst 0, 1) := by decide +kernel
theorem dX12_dry_15 : decode cX12_dry 15 = .ok (.invokestatic 401, 3) := by decide +kernel
theorem dX12_dry_18 : decode cX12_dry 18 = .ok (.iconst 0, 1) := by decide +kernel
theorem dX12_dry_19 : decode cX12_dry 19 = .ok (.istore_n 1, 1) := by decide +kernel
theorem dX12_dry_20 : decode cX12_dry 20 = .ok (.iload_n 1, 1) := by decide +kernel
theorem dX12_dry_21 : decode cX12_dry 21 = .ok (.bipush 60, 2) := by decide +kernel
theorem dX12_dry_23 : decode cX12_dry 23 = .ok (.if_icmp .gt 21, 3) := by decide +kernel
theorem dX12_dry_26 : decode cX12_dry 26 = .ok (.aload_n 0, 1) := by decide +kernel
theorem dX12_dry_27 : decode cX12_dry 27 = .ok (.invokevirtual 417, 3) := by decide +kernel
theorem dX12_dry_30 : decode cX12_dry 30 = .ok (.ifCond .le 14, 3) := by decide +kernel
theorem dX12_dry_33 : decode cX12_dry 33 = .ok (.aload_n 0, 1) := by decide +kernel
theorem dX12_dry_34 : decode cX12_dry 34 = .ok (.invokevirtual 408, 3) := by decide +kernel
theorem dX12_dry_37 : decode cX12_dry 37 = .ok (.pop, 1) := by decide +kernel
theorem dX12_dry_38 : decode cX12_dry 38 = .ok (.iinc 1 1, 3) := by decide +kernel
theorem dX12_dry_41 : decode cX12_dry 41 = .ok (.goto (-21), 3) := by decide +kernel
theorem dX12_dry_44 : decode cX12_dry 44 = .ok (.aload_n 0, 1) := by decide +kernel
theorem dX12_dry_45 : decode cX12_dry 45 = .ok (.getfield 123, 3) := by decide +kernel
theorem dX12_dry_48 : decode cX12_dry 48 = .ok (.iconst 0, 1) := by decide +kernel
theorem dX12_dry_49 : decode cX12_dry 49 = .ok (.aload_n 0, 1) := by decide +kernel
theorem dX12_dry_50 : decode cX12_dry 50 = .ok (.getfield 117, 3) := by decide +kernel
theorem dX12_dry_53 : decode cX12_dry 53 = .ok (.iconst 0, 1) := by decide +kernel
theorem dX12_dry_54 : decode cX12_dry 54 = .ok (.invokestatic 401, 3) := by decide +kernel
theorem dX12_dry_57 : decode cX12_dry 57 = .ok (.iload_n 1, 1) := by decide +kernel
theorem dX12_dry_58 : decode cX12_dry 58 = .ok (.bipush 60, 2) := by decide +kernel
theorem dX12_dry_60 : decode cX12_dry 60 = .ok (.if_icmp .le 7, 3) := by decide +kernel
theorem dX12_dry_63 : decode cX12_dry 63 = .ok (.iconst (-1), 1) := by decide +kernel
theorem dX12_dry_64 : decode cX12_dry 64 = .ok (.goto 4, 3) := by decide +kernel
theorem dX12_dry_67 : decode cX12_dry 67 = .ok (.iload_n 1, 1) := by decide +kernel
theorem dX12_dry_68 : decode cX12_dry 68 = .ok (.ireturn, 1) := by decide +kernel
theorem dX12_spill_0 : decode cX12_spill 0 = .ok (.aload_n 0, 1) := by decide +kernel
theorem dX12_spill_1 : decode cX12_spill 1 = .ok (.iconst 0, 1) := by decide +kernel
theorem dX12_spill_2 : decode cX12_spill 2 = .ok (.putfield 147, 3) := by decide +kernel
theorem dX12_spill_5 : decode cX12_spill 5 = .ok (.iload_n 1, 1) := by decide +kernel
theorem dX12_spill_6 : decode cX12_spill 6 = .ok (.iconst 1, 1) := by decide +kernel
theorem dX12_spill_7 : decode cX12_spill 7 = .ok (.bipush 60, 2) := by decide +kernel
theorem dX12_spill_9 : decode cX12_spill 9 = .ok (.invokestatic 268, 3) := by decide +kernel
theorem dX12_spill_12 : decode cX12_spill 12 = .ok (.ifCond .ne 5, 3) := by decide +kernel
theorem dX12_spill_15 : decode cX12_spill 15 = .ok (.iconst (-1), 1) := by decide +kernel
theorem dX12_spill_16 : decode cX12_spill 16 = .ok (.ireturn, 1) := by decide +kernel
theorem dX12_spill_17 : decode cX12_spill 17 = .ok (.aload_n 0, 1) := by decide +kernel
theorem dX12_spill_18 : decode cX12_spill 18 = .ok (.getfield 117, 3) := by decide +kernel
theorem dX12_spill_21 : decode cX12_spill 21 = .ok (.iconst 0, 1) := by decide +kernel
theorem dX12_spill_22 : decode cX12_spill 22 = .ok (.aload_n 0, 1) := by decide +kernel
theorem dX12_spill_23 : decode cX12_spill 23 = .ok (.getfield 123, 3) := by decide +kernel
theorem dX12_spill_26 : decode cX12_spill 26 = .ok (.iconst 0, 1) := by decide +kernel
theorem dX12_spill_27 : decode cX12_spill 27 = .ok (.invokestatic 401, 3) := by decide +kernel
theorem dX12_spill_30 : decode cX12_spill 30 = .ok (.iconst 0, 1) := by decide +kernel
theorem dX12_spill_31 : decode cX12_spill 31 = .ok (.istore_n 2, 1) := by decide +kernel
theorem dX12_spill_32 : decode cX12_spill 32 = .ok (.iconst 0, 1) := by decide +kernel
theorem dX12_spill_33 : decode cX12_spill 33 = .ok (.istore_n 3, 1) := by decide +kernel
theorem dX12_spill_34 : decode cX12_spill 34 = .ok (.iload_n 3, 1) := by decide +kernel
theorem dX12_spill_35 : decode cX12_spill 35 = .ok (.iload_n 1, 1) := by decide +kernel
theorem dX12_spill_36 : decode cX12_spill 36 = .ok (.if_icmp .ge 21, 3) := by decide +kernel
theorem dX12_spill_39 : decode cX12_spill 39 = .ok (.aload_n 0, 1) := by decide +kernel
theorem dX12_spill_40 : decode cX12_spill 40 = .ok (.invokevirtual 408, 3) := by decide +kernel
theorem dX12_spill_43 : decode cX12_spill 43 = .ok (.pop, 1) := by decide +kernel
theorem dX12_spill_44 : decode cX12_spill 44 = .ok (.iload_n 2, 1) := by decide +kernel
theorem dX12_spill_45 : decode cX12_spill 45 = .ok (.aload_n 0, 1) := by decide +kernel
theorem dX12_spill_46 : decode cX12_spill 46 = .ok (.getfield 374, 3) := by decide +kernel
theorem dX12_spill_49 : decode cX12_spill 49 = .ok (.iadd, 1) := by decide +kernel
theorem dX12_spill_50 : decode cX12_spill 50 = .ok (.istore_n 2, 1) := by decide +kernel
theorem dX12_spill_51 : decode cX12_spill 51 = .ok (.iinc 3 1, 3) := by decide +kernel
theorem dX12_spill_54 : decode cX12_spill 54 = .ok (.goto (-20), 3) := by decide +kernel
theorem dX12_spill_57 : decode cX12_spill 57 = .ok (.aload_n 0, 1) := by decide +kernel
theorem dX12_spill_58 : decode cX12_spill 58 = .ok (.getfield 123, 3) := by decide +kernel
theorem dX12_spill_61 : decode cX12_spill 61 = .ok (.iconst 0, 1) := by decide +kernel
theorem dX12_spill_62 : decode cX12_spill 62 = .ok (.aload_n 0, 1) := by decide +kernel
theorem dX12_spill_63 : decode cX12_spill 63 = .ok (.getfield 117, 3) := by decide +kernel
theorem dX12_spill_66 : decode cX12_spill 66 = .ok (.iconst 0, 1) := by decide +kernel
theorem dX12_spill_67 : decode cX12_spill 67 = .ok (.invokestatic 401, 3) := by decide +kernel
theorem dX12_spill_70 : decode cX12_spill 70 = .ok (.iload_n 2, 1) := by decide +kernel
theorem dX12_spill_71 : decode cX12_spill 71 = .ok (.ireturn, 1) := by decide +kernel
theorem dX12_overOf_0 : decode cX12_overOf 0 = .ok (.aload_n 0, 1) := by decide +kernel
theorem dX12_overOf_1 : decode cX12_overOf 1 = .ok (.getfield 117, 3) := by decide +kernel
theorem dX12_overOf_4 : decode cX12_overOf 4 = .ok (.iconst 0, 1) := by decide +kernel
theorem dX12_overOf_5 : decode cX12_overOf 5 = .ok (.aload_n 0, 1) := by decide +kernel
theorem dX12_overOf_6 : decode cX12_overOf 6 = .ok (.getfield 123, 3) := by decide +kernel
theorem dX12_overOf_9 : decode cX12_overOf 9 = .ok (.iconst 0, 1) := by decide +kernel
theorem dX12_overOf_10 : decode cX12_overOf 10 = .ok (.invokestatic 401, 3) := by decide +kernel
theorem dX12_overOf_13 : decode cX12_overOf 13 = .ok (.iconst (-1), 1) := by decide +kernel
theorem dX12_overOf_14 : decode cX12_overOf 14 = .ok (.istore_n 2, 1) := by decide +kernel
theorem dX12_overOf_15 : decode cX12_overOf 15 = .ok (.iconst 1, 1) := by decide +kernel
theorem dX12_overOf_16 : decode cX12_overOf 16 = .ok (.istore_n 3, 1) := by decide +kernel
theorem dX12_overOf_17 : decode cX12_overOf 17 = .ok (.iload_n 3, 1) := by decide +kernel
theorem dX12_overOf_18 : decode cX12_overOf 18 = .ok (.bipush 60, 2) := by decide +kernel
theorem dX12_overOf_20 : decode cX12_overOf 20 = .ok (.if_icmp .gt 29, 3) := by decide +kernel
theorem dX12_overOf_23 : decode cX12_overOf 23 = .ok (.iload_n 2, 1) := by decide +kernel
theorem dX12_overOf_24 : decode cX12_overOf 24 = .ok (.ifCond .ge 25, 3) := by decide +kernel
theorem dX12_overOf_27 : decode cX12_overOf 27 = .ok (.aload_n 0, 1) := by decide +kernel
theorem dX12_overOf_28 : decode cX12_overOf 28 = .ok (.invokevirtual 408, 3) := by decide +kernel
theorem dX12_overOf_31 : decode cX12_overOf 31 = .ok (.pop, 1) := by decide +kernel
theorem dX12_overOf_32 : decode cX12_overOf 32 = .ok (.aload_n 0, 1) := by decide +kernel
theorem dX12_overOf_33 : decode cX12_overOf 33 = .ok (.getfield 371, 3) := by decide +kernel
theorem dX12_overOf_36 : decode cX12_overOf 36 = .ok (.iload_n 1, 1) := by decide +kernel
theorem dX12_overOf_37 : decode cX12_overOf 37 = .ok (.iand, 1) := by decide +kernel
theorem dX12_overOf_38 : decode cX12_overOf 38 = .ok (.ifCond .eq 5, 3) := by decide +kernel
theorem dX12_overOf_41 : decode cX12_overOf 41 = .ok (.iload_n 3, 1) := by decide +kernel
theorem dX12_overOf_42 : decode cX12_overOf 42 = .ok (.istore_n 2, 1) := by decide +kernel
theorem dX12_overOf_43 : decode cX12_overOf 43 = .ok (.iinc 3 1, 3) := by decide +kernel
theorem dX12_overOf_46 : decode cX12_overOf 46 = .ok (.goto (-29), 3) := by decide +kernel
theorem dX12_overOf_49 : decode cX12_overOf 49 = .ok (.aload_n 0, 1) := by decide +kernel
theorem dX12_overOf_50 : decode cX12_overOf 50 = .ok (.dup, 1) := by decide +kernel
theorem dX12_overOf_51 : decode cX12_overOf 51 = .ok (.getfield 371, 3) := by decide +kernel
theorem dX12_overOf_54 : decode cX12_overOf 54 = .ok (.iload_n 1, 1) := by decide +kernel
theorem dX12_overOf_55 : decode cX12_overOf 55 = .ok (.iand, 1) := by decide +kernel
theorem dX12_overOf_56 : decode cX12_overOf 56 = .ok (.putfield 371, 3) := by decide +kernel
theorem dX12_overOf_59 : decode cX12_overOf 59 = .ok (.aload_n 0, 1) := by decide +kernel
theorem dX12_overOf_60 : decode cX12_overOf 60 = .ok (.getfield 123, 3) := by decide +kernel
theorem dX12_overOf_63 : decode cX12_overOf 63 = .ok (.iconst 0, 1) := by decide +kernel
theorem dX12_overOf_64 : decode cX12_overOf 64 = .ok (.aload_n 0, 1) := by decide +kernel
theorem dX12_overOf_65 : decode cX12_overOf 65 = .ok (.getfield 117, 3) := by decide +kernel
theorem dX12_overOf_68 : decode cX12_overOf 68 = .ok (.iconst 0, 1) := by decide +kernel
theorem dX12_overOf_69 : decode cX12_overOf 69 = .ok (.invokestatic 401, 3) := by decide +kernel
theorem dX12_overOf_72 : decode cX12_overOf 72 = .ok (.iload_n 2, 1) := by decide +kernel
theorem dX12_overOf_73 : decode cX12_overOf 73 = .ok (.ireturn, 1) := by decide +kernel
theorem dX12_over_0 : decode cX12_over 0 = .ok (.aload_n 0, 1) := by decide +kernel
theorem dX12_over_1 : decode cX12_over 1 = .ok (.iconst 0, 1) := by decide +kernel
theorem dX12_over_2 : decode cX12_over 2 = .ok (.putfield 147, 3) := by decide +kernel
theorem dX12_over_5 : decode cX12_over 5 = .ok (.aload_n 0, 1) := by decide +kernel
theorem dX12_over_6 : decode cX12_over 6 = .ok (.iload_n 1, 1) := by decide +kernel
theorem dX12_over_7 : decode cX12_over 7 = .ok (.invokevirtual 395, 3) := by decide +kernel
theorem dX12_over_10 : decode cX12_over 10 = .ok (.ifCond .eq 13, 3) := by decide +kernel
theorem dX12_over_13 : decode cX12_over 13 = .ok (.aload_n 0, 1) := by decide +kernel
theorem dX12_over_14 : decode cX12_over 14 = .ok (.iconst 1, 1) := by decide +kernel
theorem dX12_over_15 : decode cX12_over 15 = .ok (.iload_n 1, 1) := by decide +kernel
theorem dX12_over_16 : decode cX12_over 16 = .ok (.ishl, 1) := by decide +kernel
theorem dX12_over_17 : decode cX12_over 17 = .ok (.invokevirtual 420, 3) := by decide +kernel
theorem dX12_over_20 : decode cX12_over 20 = .ok (.goto 4, 3) := by decide +kernel
theorem dX12_over_23 : decode cX12_over 23 = .ok (.iconst (-1), 1) := by decide +kernel
theorem dX12_over_24 : decode cX12_over 24 = .ok (.ireturn, 1) := by decide +kernel
theorem dX12_lowest_0 : decode cX12_lowest 0 = .ok (.iconst 0, 1) := by decide +kernel
theorem dX12_lowest_1 : decode cX12_lowest 1 = .ok (.istore_n 1, 1) := by decide +kernel
theorem dX12_lowest_2 : decode cX12_lowest 2 = .ok (.iload_n 1, 1) := by decide +kernel
theorem dX12_lowest_3 : decode cX12_lowest 3 = .ok (.bipush 7, 2) := by decide +kernel
theorem dX12_lowest_5 : decode cX12_lowest 5 = .ok (.if_icmp .ge 20, 3) := by decide +kernel
theorem dX12_lowest_8 : decode cX12_lowest 8 = .ok (.iload_n 0, 1) := by decide +kernel
theorem dX12_lowest_9 : decode cX12_lowest 9 = .ok (.iload_n 1, 1) := by decide +kernel
theorem dX12_lowest_10 : decode cX12_lowest 10 = .ok (.ishr, 1) := by decide +kernel
theorem dX12_lowest_11 : decode cX12_lowest 11 = .ok (.iconst 1, 1) := by decide +kernel
theorem dX12_lowest_12 : decode cX12_lowest 12 = .ok (.iand, 1) := by decide +kernel
theorem dX12_lowest_13 : decode cX12_lowest 13 = .ok (.iconst 1, 1) := by decide +kernel
theorem dX12_lowest_14 : decode cX12_lowest 14 = .ok (.if_icmp .ne 5, 3) := by decide +kernel
theorem dX12_lowest_17 : decode cX12_lowest 17 = .ok (.iload_n 1, 1) := by decide +kernel
theorem dX12_lowest_18 : decode cX12_lowest 18 = .ok (.ireturn, 1) := by decide +kernel
theorem dX12_lowest_19 : decode cX12_lowest 19 = .ok (.iinc 1 1, 3) := by decide +kernel
theorem dX12_lowest_22 : decode cX12_lowest 22 = .ok (.goto (-20), 3) := by decide +kernel
theorem dX12_lowest_25 : decode cX12_lowest 25 = .ok (.iconst (-1), 1) := by decide +kernel
theorem dX12_lowest_26 : decode cX12_lowest 26 = .ok (.ireturn, 1) := by decide +kernel
theorem dX12_first_0 : decode cX12_first 0 = .ok (.aload_n 0, 1) := by decide +kernel
theorem dX12_first_1 : decode cX12_first 1 = .ok (.iconst 0, 1) := by decide +kernel
theorem dX12_first_2 : decode cX12_first 2 = .ok (.putfield 147, 3) := by decide +kernel
theorem dX12_first_5 : decode cX12_first 5 = .ok (.aload_n 0, 1) := by decide +kernel
theorem dX12_first_6 : decode cX12_first 6 = .ok (.aload_n 0, 1) := by decide +kernel
theorem dX12_first_7 : decode cX12_first 7 = .ok (.invokevirtual 423, 3) := by decide +kernel
theorem dX12_first_10 : decode cX12_first 10 = .ok (.invokevirtual 420, 3) := by decide +kernel
theorem dX12_first_13 : decode cX12_first 13 = .ok (.ifCond .ge 7, 3) := by decide +kernel
theorem dX12_first_16 : decode cX12_first 16 = .ok (.iconst (-1), 1) := by decide +kernel
theorem dX12_first_17 : decode cX12_first 17 = .ok (.goto 10, 3) := by decide +kernel
theorem dX12_first_20 : decode cX12_first 20 = .ok (.aload_n 0, 1) := by decide +kernel
theorem dX12_first_21 : decode cX12_first 21 = .ok (.getfield 371, 3) := by decide +kernel
theorem dX12_first_24 : decode cX12_first 24 = .ok (.invokestatic 426, 3) := by decide +kernel
theorem dX12_first_27 : decode cX12_first 27 = .ok (.ireturn, 1) := by decide +kernel
theorem dX12_great_0 : decode cX12_great 0 = .ok (.aload_n 0, 1) := by decide +kernel
theorem dX12_great_1 : decode cX12_great 1 = .ok (.iconst 0, 1) := by decide +kernel
theorem dX12_great_2 : decode cX12_great 2 = .ok (.putfield 147, 3) := by decide +kernel
theorem dX12_great_5 : decode cX12_great 5 = .ok (.iload_n 1, 1) := by decide +kernel
theorem dX12_great_6 : decode cX12_great 6 = .ok (.iconst 1, 1) := by decide +kernel
theorem dX12_great_7 : decode cX12_great 7 = .ok (.bipush 60, 2) := by decide +kernel
theorem dX12_great_9 : decode cX12_great 9 = .ok (.invokestatic 268, 3) := by decide +kernel
theorem dX12_great_12 : decode cX12_great 12 = .ok (.ifCond .ne 5, 3) := by decide +kernel
theorem dX12_great_15 : decode cX12_great 15 = .ok (.iconst (-1), 1) := by decide +kernel
theorem dX12_great_16 : decode cX12_great 16 = .ok (.ireturn, 1) := by decide +kernel
theorem dX12_great_17 : decode cX12_great 17 = .ok (.aload_n 0, 1) := by decide +kernel
theorem dX12_great_18 : decode cX12_great 18 = .ok (.getfield 117, 3) := by decide +kernel
theorem dX12_great_21 : decode cX12_great 21 = .ok (.iconst 0, 1) := by decide +kernel
theorem dX12_great_22 : decode cX12_great 22 = .ok (.aload_n 0, 1) := by decide +kernel
theorem dX12_great_23 : decode cX12_great 23 = .ok (.getfield 123, 3) := by decide +kernel
theorem dX12_great_26 : decode cX12_great 26 = .ok (.iconst 0, 1) := by decide +kernel
theorem dX12_great_27 : decode cX12_great 27 = .ok (.invokestatic 401, 3) := by decide +kernel
theorem dX12_great_30 : decode cX12_great 30 = .ok (.iconst 0, 1) := by decide +kernel
theorem dX12_great_31 : decode cX12_great 31 = .ok (.istore_n 2, 1) := by decide +kernel
theorem dX12_great_32 : decode cX12_great 32 = .ok (.iload_n 2, 1) := by decide +kernel
theorem dX12_great_33 : decode cX12_great 33 = .ok (.bipush 7, 2) := by decide +kernel
theorem dX12_great_35 : decode cX12_great 35 = .ok (.if_icmp .ge 16, 3) := by decide +kernel
theorem dX12_great_38 : decode cX12_great 38 = .ok (.aload_n 0, 1) := by decide +kernel
theorem dX12_great_39 : decode cX12_great 39 = .ok (.getfield 138, 3) := by decide +kernel
theorem dX12_great_42 : decode cX12_great 42 = .ok (.iload_n 2, 1) := by decide +kernel
theorem dX12_great_43 : decode cX12_great 43 = .ok (.iconst 0, 1) := by decide +kernel
theorem dX12_great_44 : decode cX12_great 44 = .ok (.iastore, 1) := by decide +kernel
theorem dX12_great_45 : decode cX12_great 45 = .ok (.iinc 2 1, 3) := by decide +kernel
theorem dX12_great_48 : decode cX12_great 48 = .ok (.goto (-16), 3) := by decide +kernel
theorem dX12_great_51 : decode cX12_great 51 = .ok (.iconst 0, 1) := by decide +kernel
theorem dX12_great_52 : decode cX12_great 52 = .ok (.istore_n 2, 1) := by decide +kernel
theorem dX12_great_53 : decode cX12_great 53 = .ok (.iload_n 2, 1) := by decide +kernel
theorem dX12_great_54 : decode cX12_great 54 = .ok (.iload_n 1, 1) := by decide +kernel
theorem dX12_great_55 : decode cX12_great 55 = .ok (.if_icmp .ge 50, 3) := by decide +kernel
theorem dX12_great_58 : decode cX12_great 58 = .ok (.aload_n 0, 1) := by decide +kernel
theorem dX12_great_59 : decode cX12_great 59 = .ok (.invokevirtual 408, 3) := by decide +kernel
theorem dX12_great_62 : decode cX12_great 62 = .ok (.pop, 1) := by decide +kernel
theorem dX12_great_63 : decode cX12_great 63 = .ok (.iconst 0, 1) := by decide +kernel
theorem dX12_great_64 : decode cX12_great 64 = .ok (.istore_n 3, 1) := by decide +kernel
theorem dX12_great_65 : decode cX12_great 65 = .ok (.iload_n 3, 1) := by decide +kernel
theorem dX12_great_66 : decode cX12_great 66 = .ok (.aload_n 0, 1) := by decide +kernel
theorem dX12_great_67 : decode cX12_great 67 = .ok (.getfield 13, 3) := by decide +kernel
theorem dX12_great_70 : decode cX12_great 70 = .ok (.iconst 0, 1) := by decide +kernel
theorem dX12_great_71 : decode cX12_great 71 = .ok (.iaload, 1) := by decide +kernel
theorem dX12_great_72 : decode cX12_great 72 = .ok (.if_icmp .ge 27, 3) := by decide +kernel
theorem dX12_great_75 : decode cX12_great 75 = .ok (.aload_n 0, 1) := by decide +kernel
theorem dX12_great_76 : decode cX12_great 76 = .ok (.getfield 138, 3) := by decide +kernel
theorem dX12_great_79 : decode cX12_great 79 = .ok (.iload_n 3, 1) := by decide +kernel
theorem dX12_great_80 : decode cX12_great 80 = .ok (.dup2, 1) := by decide +kernel
theorem dX12_great_81 : decode cX12_great 81 = .ok (.iaload, 1) := by decide +kernel
theorem dX12_great_82 : decode cX12_great 82 = .ok (.aload_n 0, 1) := by decide +kernel
theorem dX12_great_83 : decode cX12_great 83 = .ok (.getfield 117, 3) := by decide +kernel
theorem dX12_great_86 : decode cX12_great 86 = .ok (.bipush 12, 2) := by decide +kernel
theorem dX12_great_88 : decode cX12_great 88 = .ok (.iload_n 3, 1) := by decide +kernel
theorem dX12_great_89 : decode cX12_great 89 = .ok (.iadd, 1) := by decide +kernel
theorem dX12_great_90 : decode cX12_great 90 = .ok (.iaload, 1) := by decide +kernel
theorem dX12_great_91 : decode cX12_great 91 = .ok (.iadd, 1) := by decide +kernel
theorem dX12_great_92 : decode cX12_great 92 = .ok (.iastore, 1) := by decide +kernel
theorem dX12_great_93 : decode cX12_great 93 = .ok (.iinc 3 1, 3) := by decide +kernel
theorem dX12_great_96 : decode cX12_great 96 = .ok (.goto (-31), 3) := by decide +kernel
theorem dX12_great_99 : decode cX12_great 99 = .ok (.iinc 2 1, 3) := by decide +kernel
theorem dX12_great_102 : decode cX12_great 102 = .ok (.goto (-49), 3) := by decide +kernel
theorem dX12_great_105 : decode cX12_great 105 = .ok (.aload_n 0, 1) := by decide +kernel
theorem dX12_great_106 : decode cX12_great 106 = .ok (.getfield 123, 3) := by decide +kernel
theorem dX12_great_109 : decode cX12_great 109 = .ok (.iconst 0, 1) := by decide +kernel
theorem dX12_great_110 : decode cX12_great 110 = .ok (.aload_n 0, 1) := by decide +kernel
theorem dX12_great_111 : decode cX12_great 111 = .ok (.getfield 117, 3) := by decide +kernel
theorem dX12_great_114 : decode cX12_great 114 = .ok (.iconst 0, 1) := by decide +kernel
theorem dX12_great_115 : decode cX12_great 115 = .ok (.invokestatic 401, 3) := by decide +kernel
theorem dX12_great_118 : decode cX12_great 118 = .ok (.iconst (-1), 1) := by decide +kernel
theorem dX12_great_119 : decode cX12_great 119 = .ok (.istore_n 2, 1) := by decide +kernel
theorem dX12_great_120 : decode cX12_great 120 = .ok (.iconst 0, 1) := by decide +kernel
theorem dX12_great_121 : decode cX12_great 121 = .ok (.istore_n 3, 1) := by decide +kernel
theorem dX12_great_122 : decode cX12_great 122 = .ok (.iload_n 3, 1) := by decide +kernel
theorem dX12_great_123 : decode cX12_great 123 = .ok (.aload_n 0, 1) := by decide +kernel
theorem dX12_great_124 : decode cX12_great 124 = .ok (.getfield 13, 3) := by decide +kernel
theorem dX12_great_127 : decode cX12_great 127 = .ok (.iconst 0, 1) := by decide +kernel
theorem dX12_great_128 : decode cX12_great 128 = .ok (.iaload, 1) := by decide +kernel
theorem dX12_great_129 : decode cX12_great 129 = .ok (.if_icmp .ge 30, 3) := by decide +kernel
theorem dX12_great_132 : decode cX12_great 132 = .ok (.iload_n 2, 1) := by decide +kernel
theorem dX12_great_133 : decode cX12_great 133 = .ok (.ifCond .lt 18, 3) := by decide +kernel
theorem dX12_great_136 : decode cX12_great 136 = .ok (.aload_n 0, 1) := by decide +kernel
theorem dX12_great_137 : decode cX12_great 137 = .ok (.getfield 138, 3) := by decide +kernel
theorem dX12_great_140 : decode cX12_great 140 = .ok (.iload_n 3, 1) := by decide +kernel
theorem dX12_great_141 : decode cX12_great 141 = .ok (.iaload, 1) := by decide +kernel
theorem dX12_great_142 : decode cX12_great 142 = .ok (.aload_n 0, 1) := by decide +kernel
theorem dX12_great_143 : decode cX12_great 143 = .ok (.getfield 138, 3) := by decide +kernel
theorem dX12_great_146 : decode cX12_great 146 = .ok (.iload_n 2, 1) := by decide +kernel
theorem dX12_great_147 : decode cX12_great 147 = .ok (.iaload, 1) := by decide +kernel
theorem dX12_great_148 : decode cX12_great 148 = .ok (.if_icmp .le 5, 3) := by decide +kernel
theorem dX12_great_151 : decode cX12_great 151 = .ok (.iload_n 3, 1) := by decide +kernel
theorem dX12_great_152 : decode cX12_great 152 = .ok (.istore_n 2, 1) := by decide +kernel
theorem dX12_great_153 : decode cX12_great 153 = .ok (.iinc 3 1, 3) := by decide +kernel
theorem dX12_great_156 : decode cX12_great 156 = .ok (.goto (-34), 3) := by decide +kernel
theorem dX12_great_159 : decode cX12_great 159 = .ok (.iload_n 2, 1) := by decide +kernel
theorem dX12_great_160 : decode cX12_great 160 = .ok (.ireturn, 1) := by decide +kernel
theorem dX12_twins_0 : decode cX12_twins 0 = .ok (.aload_n 0, 1) := by decide +kernel
theorem dX12_twins_1 : decode cX12_twins 1 = .ok (.iconst 0, 1) := by decide +kernel
theorem dX12_twins_2 : decode cX12_twins 2 = .ok (.putfield 147, 3) := by decide +kernel
theorem dX12_twins_5 : decode cX12_twins 5 = .ok (.iload_n 1, 1) := by decide +kernel
theorem dX12_twins_6 : decode cX12_twins 6 = .ok (.iconst 1, 1) := by decide +kernel
theorem dX12_twins_7 : decode cX12_twins 7 = .ok (.bipush 60, 2) := by decide +kernel
theorem dX12_twins_9 : decode cX12_twins 9 = .ok (.invokestatic 268, 3) := by decide +kernel
theorem dX12_twins_12 : decode cX12_twins 12 = .ok (.ifCond .ne 5, 3) := by decide +kernel
theorem dX12_twins_15 : decode cX12_twins 15 = .ok (.iconst (-1), 1) := by decide +kernel
theorem dX12_twins_16 : decode cX12_twins 16 = .ok (.ireturn, 1) := by decide +kernel
theorem dX12_twins_17 : decode cX12_twins 17 = .ok (.aload_n 0, 1) := by decide +kernel
theorem dX12_twins_18 : decode cX12_twins 18 = .ok (.getfield 117, 3) := by decide +kernel
theorem dX12_twins_21 : decode cX12_twins 21 = .ok (.iconst 0, 1) := by decide +kernel
theorem dX12_twins_22 : decode cX12_twins 22 = .ok (.aload_n 0, 1) := by decide +kernel
theorem dX12_twins_23 : decode cX12_twins 23 = .ok (.getfield 123, 3) := by decide +kernel
theorem dX12_twins_26 : decode cX12_twins 26 = .ok (.iconst 0, 1) := by decide +kernel
theorem dX12_twins_27 : decode cX12_twins 27 = .ok (.invokestatic 401, 3) := by decide +kernel
theorem dX12_twins_30 : decode cX12_twins 30 = .ok (.iconst 0, 1) := by decide +kernel
theorem dX12_twins_31 : decode cX12_twins 31 = .ok (.istore_n 2, 1) := by decide +kernel
theorem dX12_twins_32 : decode cX12_twins 32 = .ok (.iload_n 2, 1) := by decide +kernel
theorem dX12_twins_33 : decode cX12_twins 33 = .ok (.bipush 7, 2) := by decide +kernel
theorem dX12_twins_35 : decode cX12_twins 35 = .ok (.if_icmp .ge 16, 3) := by decide +kernel
theorem dX12_twins_38 : decode cX12_twins 38 = .ok (.aload_n 0, 1) := by decide +kernel
theorem dX12_twins_39 : decode cX12_twins 39 = .ok (.getfield 138, 3) := by decide +kernel
theorem dX12_twins_42 : decode cX12_twins 42 = .ok (.iload_n 2, 1) := by decide +kernel
theorem dX12_twins_43 : decode cX12_twins 43 = .ok (.iconst 0, 1) := by decide +kernel
theorem dX12_twins_44 : decode cX12_twins 44 = .ok (.iastore, 1) := by decide +kernel
theorem dX12_twins_45 : decode cX12_twins 45 = .ok (.iinc 2 1, 3) := by decide +kernel
theorem dX12_twins_48 : decode cX12_twins 48 = .ok (.goto (-16), 3) := by decide +kernel
theorem dX12_twins_51 : decode cX12_twins 51 = .ok (.iconst 0, 1) := by decide +kernel
theorem dX12_twins_52 : decode cX12_twins 52 = .ok (.istore_n 2, 1) := by decide +kernel
theorem dX12_twins_53 : decode cX12_twins 53 = .ok (.iload_n 2, 1) := by decide +kernel
theorem dX12_twins_54 : decode cX12_twins 54 = .ok (.iload_n 1, 1) := by decide +kernel
theorem dX12_twins_55 : decode cX12_twins 55 = .ok (.if_icmp .ge 86, 3) := by decide +kernel
theorem dX12_twins_58 : decode cX12_twins 58 = .ok (.aload_n 0, 1) := by decide +kernel
theorem dX12_twins_59 : decode cX12_twins 59 = .ok (.invokevirtual 408, 3) := by decide +kernel
theorem dX12_twins_62 : decode cX12_twins 62 = .ok (.pop, 1) := by decide +kernel
theorem dX12_twins_63 : decode cX12_twins 63 = .ok (.iconst 0, 1) := by decide +kernel
theorem dX12_twins_64 : decode cX12_twins 64 = .ok (.istore_n 3, 1) := by decide +kernel
theorem dX12_twins_65 : decode cX12_twins 65 = .ok (.iload_n 3, 1) := by decide +kernel
theorem dX12_twins_66 : decode cX12_twins 66 = .ok (.aload_n 0, 1) := by decide +kernel
theorem dX12_twins_67 : decode cX12_twins 67 = .ok (.getfield 13, 3) := by decide +kernel
theorem dX12_twins_70 : decode cX12_twins 70 = .ok (.iconst 0, 1) := by decide +kernel
theorem dX12_twins_71 : decode cX12_twins 71 = .ok (.iaload, 1) := by decide +kernel
theorem dX12_twins_72 : decode cX12_twins 72 = .ok (.if_icmp .ge 63, 3) := by decide +kernel
theorem dX12_twins_75 : decode cX12_twins 75 = .ok (.iconst 0, 1) := by decide +kernel
theorem dX12_twins_76 : decode cX12_twins 76 = .ok (.istore 4, 2) := by decide +kernel
theorem dX12_twins_78 : decode cX12_twins 78 = .ok (.iload 4, 2) := by decide +kernel
theorem dX12_twins_80 : decode cX12_twins 80 = .ok (.iload_n 3, 1) := by decide +kernel
theorem dX12_twins_81 : decode cX12_twins 81 = .ok (.if_icmp .ge 48, 3) := by decide +kernel
theorem dX12_twins_84 : decode cX12_twins 84 = .ok (.aload_n 0, 1) := by decide +kernel
theorem dX12_twins_85 : decode cX12_twins 85 = .ok (.getfield 138, 3) := by decide +kernel
theorem dX12_twins_88 : decode cX12_twins 88 = .ok (.iload_n 3, 1) := by decide +kernel
theorem dX12_twins_89 : decode cX12_twins 89 = .ok (.dup2, 1) := by decide +kernel
theorem dX12_twins_90 : decode cX12_twins 90 = .ok (.iaload, 1) := by decide +kernel
theorem dX12_twins_91 : decode cX12_twins 91 = .ok (.aload_n 0, 1) := by decide +kernel
theorem dX12_twins_92 : decode cX12_twins 92 = .ok (.getfield 117, 3) := by decide +kernel
theorem dX12_twins_95 : decode cX12_twins 95 = .ok (.bipush 12, 2) := by decide +kernel
theorem dX12_twins_97 : decode cX12_twins 97 = .ok (.iload_n 3, 1) := by decide +kernel
theorem dX12_twins_98 : decode cX12_twins 98 = .ok (.iadd, 1) := by decide +kernel
theorem dX12_twins_99 : decode cX12_twins 99 = .ok (.iaload, 1) := by decide +kernel
theorem dX12_twins_100 : decode cX12_twins 100 = .ok (.aload_n 0, 1) := by decide +kernel
theorem dX12_twins_101 : decode cX12_twins 101 = .ok (.getfield 117, 3) := by decide +kernel
theorem dX12_twins_104 : decode cX12_twins 104 = .ok (.bipush 12, 2) := by decide +kernel
theorem dX12_twins_106 : decode cX12_twins 106 = .ok (.iload 4, 2) := by decide +kernel
theorem dX12_twins_108 : decode cX12_twins 108 = .ok (.iadd, 1) := by decide +kernel
theorem dX12_twins_109 : decode cX12_twins 109 = .ok (.iaload, 1) := by decide +kernel
theorem dX12_twins_110 : decode cX12_twins 110 = .ok (.if_icmp .eq 10, 3) := by decide +kernel
theorem dX12_twins_113 : decode cX12_twins 113 = .ok (.iconst 1, 1) := by decide +kernel
theorem dX12_twins_114 : decode cX12_twins 114 = .ok (.iload 4, 2) := by decide +kernel
theorem dX12_twins_116 : decode cX12_twins 116 = .ok (.ishl, 1) := by decide +kernel
theorem dX12_twins_117 : decode cX12_twins 117 = .ok (.goto 4, 3) := by decide +kernel
theorem dX12_twins_120 : decode cX12_twins 120 = .ok (.iconst 0, 1) := by decide +kernel
theorem dX12_twins_121 : decode cX12_twins 121 = .ok (.ior, 1) := by decide +kernel
theorem dX12_twins_122 : decode cX12_twins 122 = .ok (.iastore, 1) := by decide +kernel
theorem dX12_twins_123 : decode cX12_twins 123 = .ok (.iinc 4 1, 3) := by decide +kernel
theorem dX12_twins_126 : decode cX12_twins 126 = .ok (.goto (-48), 3) := by decide +kernel
theorem dX12_twins_129 : decode cX12_twins 129 = .ok (.iinc 3 1, 3) := by decide +kernel
theorem dX12_twins_132 : decode cX12_twins 132 = .ok (.goto (-67), 3) := by decide +kernel
theorem dX12_twins_135 : decode cX12_twins 135 = .ok (.iinc 2 1, 3) := by decide +kernel
theorem dX12_twins_138 : decode cX12_twins 138 = .ok (.goto (-85), 3) := by decide +kernel
theorem dX12_twins_141 : decode cX12_twins 141 = .ok (.aload_n 0, 1) := by decide +kernel
theorem dX12_twins_142 : decode cX12_twins 142 = .ok (.getfield 123, 3) := by decide +kernel
theorem dX12_twins_145 : decode cX12_twins 145 = .ok (.iconst 0, 1) := by decide +kernel
theorem dX12_twins_146 : decode cX12_twins 146 = .ok (.aload_n 0, 1) := by decide +kernel
theorem dX12_twins_147 : decode cX12_twins 147 = .ok (.getfield 117, 3) := by decide +kernel
theorem dX12_twins_150 : decode cX12_twins 150 = .ok (.iconst 0, 1) := by decide +kernel
theorem dX12_twins_151 : decode cX12_twins 151 = .ok (.invokestatic 401, 3) := by decide +kernel
theorem dX12_twins_154 : decode cX12_twins 154 = .ok (.iconst 0, 1) := by decide +kernel
theorem dX12_twins_155 : decode cX12_twins 155 = .ok (.istore_n 2, 1) := by decide +kernel
theorem dX12_twins_156 : decode cX12_twins 156 = .ok (.iconst 0, 1) := by decide +kernel
theorem dX12_twins_157 : decode cX12_twins 157 = .ok (.istore_n 3, 1) := by decide +kernel
theorem dX12_twins_158 : decode cX12_twins 158 = .ok (.iload_n 3, 1) := by decide +kernel
theorem dX12_twins_159 : decode cX12_twins 159 = .ok (.aload_n 0, 1) := by decide +kernel
theorem dX12_twins_160 : decode cX12_twins 160 = .ok (.getfield 13, 3) := by decide +kernel
theorem dX12_twins_163 : decode cX12_twins 163 = .ok (.iconst 0, 1) := by decide +kernel
theorem dX12_twins_164 : decode cX12_twins 164 = .ok (.iaload, 1) := by decide +kernel
theorem dX12_twins_165 : decode cX12_twins 165 = .ok (.if_icmp .ge 23, 3) := by decide +kernel
theorem dX12_twins_168 : decode cX12_twins 168 = .ok (.iload_n 2, 1) := by decide +kernel
theorem dX12_twins_169 : decode cX12_twins 169 = .ok (.iload_n 3, 1) := by decide +kernel
theorem dX12_twins_170 : decode cX12_twins 170 = .ok (.aload_n 0, 1) := by decide +kernel
theorem dX12_twins_171 : decode cX12_twins 171 = .ok (.getfield 138, 3) := by decide +kernel
theorem dX12_twins_174 : decode cX12_twins 174 = .ok (.iload_n 3, 1) := by decide +kernel
theorem dX12_twins_175 : decode cX12_twins 175 = .ok (.iaload, 1) := by decide +kernel
theorem dX12_twins_176 : decode cX12_twins 176 = .ok (.invokestatic 429, 3) := by decide +kernel
theorem dX12_twins_179 : decode cX12_twins 179 = .ok (.isub, 1) := by decide +kernel
theorem dX12_twins_180 : decode cX12_twins 180 = .ok (.iadd, 1) := by decide +kernel
theorem dX12_twins_181 : decode cX12_twins 181 = .ok (.istore_n 2, 1) := by decide +kernel
theorem dX12_twins_182 : decode cX12_twins 182 = .ok (.iinc 3 1, 3) := by decide +kernel
theorem dX12_twins_185 : decode cX12_twins 185 = .ok (.goto (-27), 3) := by decide +kernel
theorem dX12_twins_188 : decode cX12_twins 188 = .ok (.iload_n 2, 1) := by decide +kernel
theorem dX12_twins_189 : decode cX12_twins 189 = .ok (.ireturn, 1) := by decide +kernel
theorem dX12_downOf_0 : decode cX12_downOf 0 = .ok (.iconst 0, 1) := by decide +kernel
theorem dX12_downOf_1 : decode cX12_downOf 1 = .ok (.istore_n 2, 1) := by decide +kernel
theorem dX12_downOf_2 : decode cX12_downOf 2 = .ok (.aload_n 0, 1) := by decide +kernel
theorem dX12_downOf_3 : decode cX12_downOf 3 = .ok (.getfield 35, 3) := by decide +kernel
theorem dX12_downOf_6 : decode cX12_downOf 6 = .ok (.iload_n 1, 1) := by decide +kernel
theorem dX12_downOf_7 : decode cX12_downOf 7 = .ok (.iaload, 1) := by decide +kernel
theorem dX12_downOf_8 : decode cX12_downOf 8 = .ok (.istore_n 3, 1) := by decide +kernel
theorem dX12_downOf_9 : decode cX12_downOf 9 = .ok (.iload_n 3, 1) := by decide +kernel
theorem dX12_downOf_10 : decode cX12_downOf 10 = .ok (.ifCond .lt 19, 3) := by decide +kernel
theorem dX12_downOf_13 : decode cX12_downOf 13 = .ok (.iload_n 2, 1) := by decide +kernel
theorem dX12_downOf_14 : decode cX12_downOf 14 = .ok (.iconst 1, 1) := by decide +kernel
theorem dX12_downOf_15 : decode cX12_downOf 15 = .ok (.iload_n 3, 1) := by decide +kernel
theorem dX12_downOf_16 : decode cX12_downOf 16 = .ok (.ishl, 1) := by decide +kernel
theorem dX12_downOf_17 : decode cX12_downOf 17 = .ok (.ior, 1) := by decide +kernel
theorem dX12_downOf_18 : decode cX12_downOf 18 = .ok (.istore_n 2, 1) := by decide +kernel
theorem dX12_downOf_19 : decode cX12_downOf 19 = .ok (.aload_n 0, 1) := by decide +kernel
theorem dX12_downOf_20 : decode cX12_downOf 20 = .ok (.getfield 35, 3) := by decide +kernel
theorem dX12_downOf_23 : decode cX12_downOf 23 = .ok (.iload_n 3, 1) := by decide +kernel
theorem dX12_downOf_24 : decode cX12_downOf 24 = .ok (.iaload, 1) := by decide +kernel
theorem dX12_downOf_25 : decode cX12_downOf 25 = .ok (.istore_n 3, 1) := by decide +kernel
theorem dX12_downOf_26 : decode cX12_downOf 26 = .ok (.goto (-17), 3) := by decide +kernel
theorem dX12_downOf_29 : decode cX12_downOf 29 = .ok (.iload_n 2, 1) := by decide +kernel
theorem dX12_downOf_30 : decode cX12_downOf 30 = .ok (.ireturn, 1) := by decide +kernel
theorem dX12_down_0 : decode cX12_down 0 = .ok (.aload_n 0, 1) := by decide +kernel
theorem dX12_down_1 : decode cX12_down 1 = .ok (.iconst 0, 1) := by decide +kernel
theorem dX12_down_2 : decode cX12_down 2 = .ok (.putfield 147, 3) := by decide +kernel
theorem dX12_down_5 : decode cX12_down 5 = .ok (.aload_n 0, 1) := by decide +kernel
theorem dX12_down_6 : decode cX12_down 6 = .ok (.iload_n 1, 1) := by decide +kernel
theorem dX12_down_7 : decode cX12_down 7 = .ok (.invokevirtual 395, 3) := by decide +kernel
theorem dX12_down_10 : decode cX12_down 10 = .ok (.ifCond .eq 11, 3) := by decide +kernel
theorem dX12_down_13 : decode cX12_down 13 = .ok (.aload_n 0, 1) := by decide +kernel
theorem dX12_down_14 : decode cX12_down 14 = .ok (.iload_n 1, 1) := by decide +kernel
theorem dX12_down_15 : decode cX12_down 15 = .ok (.invokevirtual 432, 3) := by decide +kernel
theorem dX12_down_18 : decode cX12_down 18 = .ok (.goto 4, 3) := by decide +kernel
theorem dX12_down_21 : decode cX12_down 21 = .ok (.iconst (-1), 1) := by decide +kernel
theorem dX12_down_22 : decode cX12_down 22 = .ok (.ireturn, 1) := by decide +kernel
theorem dX12_up_0 : decode cX12_up 0 = .ok (.aload_n 0, 1) := by decide +kernel
theorem dX12_up_1 : decode cX12_up 1 = .ok (.iconst 0, 1) := by decide +kernel
theorem dX12_up_2 : decode cX12_up 2 = .ok (.putfield 147, 3) := by decide +kernel
theorem dX12_up_5 : decode cX12_up 5 = .ok (.aload_n 0, 1) := by decide +kernel
theorem dX12_up_6 : decode cX12_up 6 = .ok (.iload_n 1, 1) := by decide +kernel
theorem dX12_up_7 : decode cX12_up 7 = .ok (.invokevirtual 395, 3) := by decide +kernel
theorem dX12_up_10 : decode cX12_up 10 = .ok (.ifCond .ne 5, 3) := by decide +kernel
theorem dX12_up_13 : decode cX12_up 13 = .ok (.iconst (-1), 1) := by decide +kernel
theorem dX12_up_14 : decode cX12_up 14 = .ok (.ireturn, 1) := by decide +kernel
theorem dX12_up_15 : decode cX12_up 15 = .ok (.iconst 0, 1) := by decide +kernel
theorem dX12_up_16 : decode cX12_up 16 = .ok (.istore_n 2, 1) := by decide +kernel
theorem dX12_up_17 : decode cX12_up 17 = .ok (.iconst 0, 1) := by decide +kernel
theorem dX12_up_18 : decode cX12_up 18 = .ok (.istore_n 3, 1) := by decide +kernel
theorem dX12_up_19 : decode cX12_up 19 = .ok (.iload_n 3, 1) := by decide +kernel
theorem dX12_up_20 : decode cX12_up 20 = .ok (.aload_n 0, 1) := by decide +kernel
theorem dX12_up_21 : decode cX12_up 21 = .ok (.getfield 13, 3) := by decide +kernel
theorem dX12_up_24 : decode cX12_up 24 = .ok (.iconst 0, 1) := by decide +kernel
theorem dX12_up_25 : decode cX12_up 25 = .ok (.iaload, 1) := by decide +kernel
theorem dX12_up_26 : decode cX12_up 26 = .ok (.if_icmp .ge 23, 3) := by decide +kernel
theorem dX12_up_29 : decode cX12_up 29 = .ok (.iload_n 2, 1) := by decide +kernel
theorem dX12_up_30 : decode cX12_up 30 = .ok (.aload_n 0, 1) := by decide +kernel
theorem dX12_up_31 : decode cX12_up 31 = .ok (.iload_n 3, 1) := by decide +kernel
theorem dX12_up_32 : decode cX12_up 32 = .ok (.invokevirtual 432, 3) := by decide +kernel
theorem dX12_up_35 : decode cX12_up 35 = .ok (.iload_n 1, 1) := by decide +kernel
theorem dX12_up_36 : decode cX12_up 36 = .ok (.ishr, 1) := by decide +kernel
theorem dX12_up_37 : decode cX12_up 37 = .ok (.iconst 1, 1) := by decide +kernel
theorem dX12_up_38 : decode cX12_up 38 = .ok (.iand, 1) := by decide +kernel
theorem dX12_up_39 : decode cX12_up 39 = .ok (.iload_n 3, 1) := by decide +kernel
theorem dX12_up_40 : decode cX12_up 40 = .ok (.ishl, 1) := by decide +kernel
theorem dX12_up_41 : decode cX12_up 41 = .ok (.ior, 1) := by decide +kernel
theorem dX12_up_42 : decode cX12_up 42 = .ok (.istore_n 2, 1) := by decide +kernel
theorem dX12_up_43 : decode cX12_up 43 = .ok (.iinc 3 1, 3) := by decide +kernel
theorem dX12_up_46 : decode cX12_up 46 = .ok (.goto (-27), 3) := by decide +kernel
theorem dX12_up_49 : decode cX12_up 49 = .ok (.iload_n 2, 1) := by decide +kernel
theorem dX12_up_50 : decode cX12_up 50 = .ok (.ireturn, 1) := by decide +kernel
theorem dX12_chain_0 : decode cX12_chain 0 = .ok (.aload_n 0, 1) := by decide +kernel
theorem dX12_chain_1 : decode cX12_chain 1 = .ok (.iconst 0, 1) := by decide +kernel
theorem dX12_chain_2 : decode cX12_chain 2 = .ok (.putfield 147, 3) := by decide +kernel
theorem dX12_chain_5 : decode cX12_chain 5 = .ok (.iconst 0, 1) := by decide +kernel
theorem dX12_chain_6 : decode cX12_chain 6 = .ok (.istore_n 1, 1) := by decide +kernel
theorem dX12_chain_7 : decode cX12_chain 7 = .ok (.iconst 0, 1) := by decide +kernel
theorem dX12_chain_8 : decode cX12_chain 8 = .ok (.istore_n 2, 1) := by decide +kernel
theorem dX12_chain_9 : decode cX12_chain 9 = .ok (.iload_n 2, 1) := by decide +kernel
theorem dX12_chain_10 : decode cX12_chain 10 = .ok (.aload_n 0, 1) := by decide +kernel
theorem dX12_chain_11 : decode cX12_chain 11 = .ok (.getfield 13, 3) := by decide +kernel
theorem dX12_chain_14 : decode cX12_chain 14 = .ok (.iconst 0, 1) := by decide +kernel
theorem dX12_chain_15 : decode cX12_chain 15 = .ok (.iaload, 1) := by decide +kernel
theorem dX12_chain_16 : decode cX12_chain 16 = .ok (.if_icmp .ge 24, 3) := by decide +kernel
theorem dX12_chain_19 : decode cX12_chain 19 = .ok (.iload_n 1, 1) := by decide +kernel
theorem dX12_chain_20 : decode cX12_chain 20 = .ok (.iconst 1, 1) := by decide +kernel
theorem dX12_chain_21 : decode cX12_chain 21 = .ok (.aload_n 0, 1) := by decide +kernel
theorem dX12_chain_22 : decode cX12_chain 22 = .ok (.iload_n 2, 1) := by decide +kernel
theorem dX12_chain_23 : decode cX12_chain 23 = .ok (.invokevirtual 432, 3) := by decide +kernel
theorem dX12_chain_26 : decode cX12_chain 26 = .ok (.invokestatic 429, 3) := by decide +kernel
theorem dX12_chain_29 : decode cX12_chain 29 = .ok (.iadd, 1) := by decide +kernel
theorem dX12_chain_30 : decode cX12_chain 30 = .ok (.invokestatic 435, 3) := by decide +kernel
theorem dX12_chain_33 : decode cX12_chain 33 = .ok (.istore_n 1, 1) := by decide +kernel
theorem dX12_chain_34 : decode cX12_chain 34 = .ok (.iinc 2 1, 3) := by decide +kernel
theorem dX12_chain_37 : decode cX12_chain 37 = .ok (.goto (-28), 3) := by decide +kernel
theorem dX12_chain_40 : decode cX12_chain 40 = .ok (.iload_n 1, 1) := by decide +kernel
theorem dX12_chain_41 : decode cX12_chain 41 = .ok (.ireturn, 1) := by decide +kernel
theorem dX12_sounds_0 : decode cX12_sounds 0 = .ok (.aload_n 0, 1) := by decide +kernel
theorem dX12_sounds_1 : decode cX12_sounds 1 = .ok (.iconst 0, 1) := by decide +kernel
theorem dX12_sounds_2 : decode cX12_sounds 2 = .ok (.putfield 147, 3) := by decide +kernel
theorem dX12_sounds_5 : decode cX12_sounds 5 = .ok (.aload_n 0, 1) := by decide +kernel
theorem dX12_sounds_6 : decode cX12_sounds 6 = .ok (.getfield 117, 3) := by decide +kernel
theorem dX12_sounds_9 : decode cX12_sounds 9 = .ok (.iconst 2, 1) := by decide +kernel
theorem dX12_sounds_10 : decode cX12_sounds 10 = .ok (.iaload, 1) := by decide +kernel
theorem dX12_sounds_11 : decode cX12_sounds 11 = .ok (.ireturn, 1) := by decide +kernel
theorem dX12_last_0 : decode cX12_last 0 = .ok (.aload_n 0, 1) := by decide +kernel
theorem dX12_last_1 : decode cX12_last 1 = .ok (.iconst 0, 1) := by decide +kernel
theorem dX12_last_2 : decode cX12_last 2 = .ok (.putfield 147, 3) := by decide +kernel
theorem dX12_last_5 : decode cX12_last 5 = .ok (.aload_n 0, 1) := by decide +kernel
theorem dX12_last_6 : decode cX12_last 6 = .ok (.getfield 117, 3) := by decide +kernel
theorem dX12_last_9 : decode cX12_last 9 = .ok (.iconst 3, 1) := by decide +kernel
theorem dX12_last_10 : decode cX12_last 10 = .ok (.iaload, 1) := by decide +kernel
theorem dX12_last_11 : decode cX12_last 11 = .ok (.ireturn, 1) := by decide +kernel
theorem dX12_often_0 : decode cX12_often 0 = .ok (.aload_n 0, 1) := by decide +kernel
theorem dX12_often_1 : decode cX12_often 1 = .ok (.iconst 0, 1) := by decide +kernel
theorem dX12_often_2 : decode cX12_often 2 = .ok (.putfield 147, 3) := by decide +kernel
theorem dX12_often_5 : decode cX12_often 5 = .ok (.iconst (-1), 1) := by decide +kernel
theorem dX12_often_6 : decode cX12_often 6 = .ok (.istore_n 1, 1) := by decide +kernel
theorem dX12_often_7 : decode cX12_often 7 = .ok (.iconst 0, 1) := by decide +kernel
theorem dX12_often_8 : decode cX12_often 8 = .ok (.istore_n 2, 1) := by decide +kernel
theorem dX12_often_9 : decode cX12_often 9 = .ok (.iconst 0, 1) := by decide +kernel
theorem dX12_often_10 : decode cX12_often 10 = .ok (.istore_n 3, 1) := by decide +kernel
theorem dX12_often_11 : decode cX12_often 11 = .ok (.iload_n 3, 1) := by decide +kernel
theorem dX12_often_12 : decode cX12_often 12 = .ok (.aload_n 0, 1) := by decide +kernel
theorem dX12_often_13 : decode cX12_often 13 = .ok (.getfield 13, 3) := by decide +kernel
theorem dX12_often_16 : decode cX12_often 16 = .ok (.iconst 1, 1) := by decide +kernel
theorem dX12_often_17 : decode cX12_often 17 = .ok (.iaload, 1) := by decide +kernel
theorem dX12_often_18 : decode cX12_often 18 = .ok (.if_icmp .ge 70, 3) := by decide +kernel
theorem dX12_often_21 : decode cX12_often 21 = .ok (.iconst 0, 1) := by decide +kernel
theorem dX12_often_22 : decode cX12_often 22 = .ok (.istore 4, 2) := by decide +kernel
theorem dX12_often_24 : decode cX12_often 24 = .ok (.iconst 0, 1) := by decide +kernel
theorem dX12_often_25 : decode cX12_often 25 = .ok (.istore 5, 2) := by decide +kernel
theorem dX12_often_27 : decode cX12_often 27 = .ok (.iload 5, 2) := by decide +kernel
theorem dX12_often_29 : decode cX12_often 29 = .ok (.aload_n 0, 1) := by decide +kernel
theorem dX12_often_30 : decode cX12_often 30 = .ok (.getfield 117, 3) := by decide +kernel
theorem dX12_often_33 : decode cX12_often 33 = .ok (.iconst 4, 1) := by decide +kernel
theorem dX12_often_34 : decode cX12_often 34 = .ok (.iaload, 1) := by decide +kernel
theorem dX12_often_35 : decode cX12_often 35 = .ok (.if_icmp .ge 33, 3) := by decide +kernel
theorem dX12_often_38 : decode cX12_often 38 = .ok (.iload 4, 2) := by decide +kernel
theorem dX12_often_40 : decode cX12_often 40 = .ok (.aload_n 0, 1) := by decide +kernel
theorem dX12_often_41 : decode cX12_often 41 = .ok (.getfield 117, 3) := by decide +kernel
theorem dX12_often_44 : decode cX12_often 44 = .ok (.bipush 19, 2) := by decide +kernel
theorem dX12_often_46 : decode cX12_often 46 = .ok (.iload 5, 2) := by decide +kernel
theorem dX12_often_48 : decode cX12_often 48 = .ok (.iadd, 1) := by decide +kernel
theorem dX12_often_49 : decode cX12_often 49 = .ok (.iaload, 1) := by decide +kernel
theorem dX12_often_50 : decode cX12_often 50 = .ok (.iload_n 3, 1) := by decide +kernel
theorem dX12_often_51 : decode cX12_often 51 = .ok (.if_icmp .ne 7, 3) := by decide +kernel
theorem dX12_often_54 : decode cX12_often 54 = .ok (.iconst 1, 1) := by decide +kernel
theorem dX12_often_55 : decode cX12_often 55 = .ok (.goto 4, 3) := by decide +kernel
theorem dX12_often_58 : decode cX12_often 58 = .ok (.iconst 0, 1) := by decide +kernel
theorem dX12_often_59 : decode cX12_often 59 = .ok (.iadd, 1) := by decide +kernel
theorem dX12_often_60 : decode cX12_often 60 = .ok (.istore 4, 2) := by decide +kernel
theorem dX12_often_62 : decode cX12_often 62 = .ok (.iinc 5 1, 3) := by decide +kernel
theorem dX12_often_65 : decode cX12_often 65 = .ok (.goto (-38), 3) := by decide +kernel
theorem dX12_often_68 : decode cX12_often 68 = .ok (.iload 4, 2) := by decide +kernel
theorem dX12_often_70 : decode cX12_often 70 = .ok (.iload_n 2, 1) := by decide +kernel
theorem dX12_often_71 : decode cX12_often 71 = .ok (.if_icmp .gt 6, 3) := by decide +kernel
theorem dX12_often_74 : decode cX12_often 74 = .ok (.goto 8, 3) := by decide +kernel
theorem dX12_often_77 : decode cX12_often 77 = .ok (.iload 4, 2) := by decide +kernel
theorem dX12_often_79 : decode cX12_often 79 = .ok (.istore_n 2, 1) := by decide +kernel
theorem dX12_often_80 : decode cX12_often 80 = .ok (.iload_n 3, 1) := by decide +kernel
theorem dX12_often_81 : decode cX12_often 81 = .ok (.istore_n 1, 1) := by decide +kernel
theorem dX12_often_82 : decode cX12_often 82 = .ok (.iinc 3 1, 3) := by decide +kernel
theorem dX12_often_85 : decode cX12_often 85 = .ok (.goto (-74), 3) := by decide +kernel
theorem dX12_often_88 : decode cX12_often 88 = .ok (.iload_n 1, 1) := by decide +kernel
theorem dX12_often_89 : decode cX12_often 89 = .ok (.ireturn, 1) := by decide +kernel
theorem dX12_run_0 : decode cX12_run 0 = .ok (.aload_n 0, 1) := by decide +kernel
theorem dX12_run_1 : decode cX12_run 1 = .ok (.iconst 0, 1) := by decide +kernel
theorem dX12_run_2 : decode cX12_run 2 = .ok (.putfield 147, 3) := by decide +kernel
theorem dX12_run_5 : decode cX12_run 5 = .ok (.iconst 0, 1) := by decide +kernel
theorem dX12_run_6 : decode cX12_run 6 = .ok (.istore_n 1, 1) := by decide +kernel
theorem dX12_run_7 : decode cX12_run 7 = .ok (.iconst 0, 1) := by decide +kernel
theorem dX12_run_8 : decode cX12_run 8 = .ok (.istore_n 2, 1) := by decide +kernel
theorem dX12_run_9 : decode cX12_run 9 = .ok (.iconst 0, 1) := by decide +kernel
theorem dX12_run_10 : decode cX12_run 10 = .ok (.istore_n 3, 1) := by decide +kernel
theorem dX12_run_11 : decode cX12_run 11 = .ok (.iload_n 3, 1) := by decide +kernel
theorem dX12_run_12 : decode cX12_run 12 = .ok (.aload_n 0, 1) := by decide +kernel
theorem dX12_run_13 : decode cX12_run 13 = .ok (.getfield 117, 3) := by decide +kernel
theorem dX12_run_16 : decode cX12_run 16 = .ok (.iconst 4, 1) := by decide +kernel
theorem dX12_run_17 : decode cX12_run 17 = .ok (.iaload, 1) := by decide +kernel
theorem dX12_run_18 : decode cX12_run 18 = .ok (.if_icmp .ge 64, 3) := by decide +kernel
theorem dX12_run_21 : decode cX12_run 21 = .ok (.iload_n 3, 1) := by decide +kernel
theorem dX12_run_22 : decode cX12_run 22 = .ok (.ifCond .le 32, 3) := by decide +kernel
theorem dX12_run_25 : decode cX12_run 25 = .ok (.aload_n 0, 1) := by decide +kernel
theorem dX12_run_26 : decode cX12_run 26 = .ok (.getfield 117, 3) := by decide +kernel
theorem dX12_run_29 : decode cX12_run 29 = .ok (.bipush 19, 2) := by decide +kernel
theorem dX12_run_31 : decode cX12_run 31 = .ok (.iload_n 3, 1) := by decide +kernel
theorem dX12_run_32 : decode cX12_run 32 = .ok (.iadd, 1) := by decide +kernel
theorem dX12_run_33 : decode cX12_run 33 = .ok (.iaload, 1) := by decide +kernel
theorem dX12_run_34 : decode cX12_run 34 = .ok (.aload_n 0, 1) := by decide +kernel
theorem dX12_run_35 : decode cX12_run 35 = .ok (.getfield 117, 3) := by decide +kernel
theorem dX12_run_38 : decode cX12_run 38 = .ok (.bipush 19, 2) := by decide +kernel
theorem dX12_run_40 : decode cX12_run 40 = .ok (.iload_n 3, 1) := by decide +kernel
theorem dX12_run_41 : decode cX12_run 41 = .ok (.iadd, 1) := by decide +kernel
theorem dX12_run_42 : decode cX12_run 42 = .ok (.iconst 1, 1) := by decide +kernel
theorem dX12_run_43 : decode cX12_run 43 = .ok (.isub, 1) := by decide +kernel
theorem dX12_run_44 : decode cX12_run 44 = .ok (.iaload, 1) := by decide +kernel
theorem dX12_run_45 : decode cX12_run 45 = .ok (.if_icmp .ne 9, 3) := by decide +kernel
theorem dX12_run_48 : decode cX12_run 48 = .ok (.iload_n 2, 1) := by decide +kernel
theorem dX12_run_49 : decode cX12_run 49 = .ok (.iconst 1, 1) := by decide +kernel
theorem dX12_run_50 : decode cX12_run 50 = .ok (.iadd, 1) := by decide +kernel
theorem dX12_run_51 : decode cX12_run 51 = .ok (.goto 4, 3) := by decide +kernel
theorem dX12_run_54 : decode cX12_run 54 = .ok (.iconst 1, 1) := by decide +kernel
theorem dX12_run_55 : decode cX12_run 55 = .ok (.istore_n 2, 1) := by decide +kernel
theorem dX12_run_56 : decode cX12_run 56 = .ok (.aload_n 0, 1) := by decide +kernel
theorem dX12_run_57 : decode cX12_run 57 = .ok (.getfield 117, 3) := by decide +kernel
theorem dX12_run_60 : decode cX12_run 60 = .ok (.bipush 19, 2) := by decide +kernel
theorem dX12_run_62 : decode cX12_run 62 = .ok (.iload_n 3, 1) := by decide +kernel
theorem dX12_run_63 : decode cX12_run 63 = .ok (.iadd, 1) := by decide +kernel
theorem dX12_run_64 : decode cX12_run 64 = .ok (.iaload, 1) := by decide +kernel
theorem dX12_run_65 : decode cX12_run 65 = .ok (.bipush 6, 2) := by decide +kernel
theorem dX12_run_67 : decode cX12_run 67 = .ok (.if_icmp .eq 9, 3) := by decide +kernel
theorem dX12_run_70 : decode cX12_run 70 = .ok (.iload_n 1, 1) := by decide +kernel
theorem dX12_run_71 : decode cX12_run 71 = .ok (.iload_n 2, 1) := by decide +kernel
theorem dX12_run_72 : decode cX12_run 72 = .ok (.invokestatic 435, 3) := by decide +kernel
theorem dX12_run_75 : decode cX12_run 75 = .ok (.istore_n 1, 1) := by decide +kernel
theorem dX12_run_76 : decode cX12_run 76 = .ok (.iinc 3 1, 3) := by decide +kernel
theorem dX12_run_79 : decode cX12_run 79 = .ok (.goto (-68), 3) := by decide +kernel
theorem dX12_run_82 : decode cX12_run 82 = .ok (.iload_n 1, 1) := by decide +kernel
theorem dX12_run_83 : decode cX12_run 83 = .ok (.ireturn, 1) := by decide +kernel
theorem dX12_standsAt_0 : decode cX12_standsAt 0 = .ok (.iload_n 1, 1) := by decide +kernel
theorem dX12_standsAt_1 : decode cX12_standsAt 1 = .ok (.aload_n 0, 1) := by decide +kernel
theorem dX12_standsAt_2 : decode cX12_standsAt 2 = .ok (.getfield 102, 3) := by decide +kernel
theorem dX12_standsAt_5 : decode cX12_standsAt 5 = .ok (.iconst 0, 1) := by decide +kernel
theorem dX12_standsAt_6 : decode cX12_standsAt 6 = .ok (.iaload, 1) := by decide +kernel
theorem dX12_standsAt_7 : decode cX12_standsAt 7 = .ok (.iadd, 1) := by decide +kernel
theorem dX12_standsAt_8 : decode cX12_standsAt 8 = .ok (.aload_n 0, 1) := by decide +kernel
theorem dX12_standsAt_9 : decode cX12_standsAt 9 = .ok (.getfield 117, 3) := by decide +kernel
theorem dX12_standsAt_12 : decode cX12_standsAt 12 = .ok (.iconst 4, 1) := by decide +kernel
theorem dX12_standsAt_13 : decode cX12_standsAt 13 = .ok (.iaload, 1) := by decide +kernel
theorem dX12_standsAt_14 : decode cX12_standsAt 14 = .ok (.if_icmp .le 5, 3) := by decide +kernel
theorem dX12_standsAt_17 : decode cX12_standsAt 17 = .ok (.iconst 0, 1) := by decide +kernel
theorem dX12_standsAt_18 : decode cX12_standsAt 18 = .ok (.ireturn, 1) := by decide +kernel
theorem dX12_standsAt_19 : decode cX12_standsAt 19 = .ok (.iconst 0, 1) := by decide +kernel
theorem dX12_standsAt_20 : decode cX12_standsAt 20 = .ok (.istore_n 3, 1) := by decide +kernel
theorem dX12_standsAt_21 : decode cX12_standsAt 21 = .ok (.iload_n 3, 1) := by decide +kernel
theorem dX12_standsAt_22 : decode cX12_standsAt 22 = .ok (.aload_n 0, 1) := by decide +kernel
theorem dX12_standsAt_23 : decode cX12_standsAt 23 = .ok (.getfield 102, 3) := by decide +kernel
theorem dX12_standsAt_26 : decode cX12_standsAt 26 = .ok (.iconst 0, 1) := by decide +kernel
theorem dX12_standsAt_27 : decode cX12_standsAt 27 = .ok (.iaload, 1) := by decide +kernel
theorem dX12_standsAt_28 : decode cX12_standsAt 28 = .ok (.if_icmp .ge 51, 3) := by decide +kernel
theorem dX12_standsAt_31 : decode cX12_standsAt 31 = .ok (.aload_n 0, 1) := by decide +kernel
theorem dX12_standsAt_32 : decode cX12_standsAt 32 = .ok (.getfield 117, 3) := by decide +kernel
theorem dX12_standsAt_35 : decode cX12_standsAt 35 = .ok (.bipush 19, 2) := by decide +kernel
theorem dX12_standsAt_37 : decode cX12_standsAt 37 = .ok (.iload_n 1, 1) := by decide +kernel
theorem dX12_standsAt_38 : decode cX12_standsAt 38 = .ok (.iadd, 1) := by decide +kernel
theorem dX12_standsAt_39 : decode cX12_standsAt 39 = .ok (.iload_n 3, 1) := by decide +kernel
theorem dX12_standsAt_40 : decode cX12_standsAt 40 = .ok (.iadd, 1) := by decide +kernel
theorem dX12_standsAt_41 : decode cX12_standsAt 41 = .ok (.iaload, 1) := by decide +kernel
theorem dX12_standsAt_42 : decode cX12_standsAt 42 = .ok (.aload_n 0, 1) := by decide +kernel
theorem dX12_standsAt_43 : decode cX12_standsAt 43 = .ok (.getfield 105, 3) := by decide +kernel
theorem dX12_standsAt_46 : decode cX12_standsAt 46 = .ok (.iload_n 3, 1) := by decide +kernel
theorem dX12_standsAt_47 : decode cX12_standsAt 47 = .ok (.iaload, 1) := by decide +kernel
theorem dX12_standsAt_48 : decode cX12_standsAt 48 = .ok (.if_icmp .eq 25, 3) := by decide +kernel
theorem dX12_standsAt_51 : decode cX12_standsAt 51 = .ok (.iload_n 2, 1) := by decide +kernel
theorem dX12_standsAt_52 : decode cX12_standsAt 52 = .ok (.ifCond .eq 19, 3) := by decide +kernel
theorem dX12_standsAt_55 : decode cX12_standsAt 55 = .ok (.aload_n 0, 1) := by decide +kernel
theorem dX12_standsAt_56 : decode cX12_standsAt 56 = .ok (.getfield 117, 3) := by decide +kernel
theorem dX12_standsAt_59 : decode cX12_standsAt 59 = .ok (.bipush 19, 2) := by decide +kernel
theorem dX12_standsAt_61 : decode cX12_standsAt 61 = .ok (.iload_n 1, 1) := by decide +kernel
theorem dX12_standsAt_62 : decode cX12_standsAt 62 = .ok (.iadd, 1) := by decide +kernel
theorem dX12_standsAt_63 : decode cX12_standsAt 63 = .ok (.iload_n 3, 1) := by decide +kernel
theorem dX12_standsAt_64 : decode cX12_standsAt 64 = .ok (.iadd, 1) := by decide +kernel
theorem dX12_standsAt_65 : decode cX12_standsAt 65 = .ok (.iaload, 1) := by decide +kernel
theorem dX12_standsAt_66 : decode cX12_standsAt 66 = .ok (.bipush 6, 2) := by decide +kernel
theorem dX12_standsAt_68 : decode cX12_standsAt 68 = .ok (.if_icmp .eq 5, 3) := by decide +kernel
theorem dX12_standsAt_71 : decode cX12_standsAt 71 = .ok (.iconst 0, 1) := by decide +kernel
theorem dX12_standsAt_72 : decode cX12_standsAt 72 = .ok (.ireturn, 1) := by decide +kernel
theorem dX12_standsAt_73 : decode cX12_standsAt 73 = .ok (.iinc 3 1, 3) := by decide +kernel
theorem dX12_standsAt_76 : decode cX12_standsAt 76 = .ok (.goto (-55), 3) := by decide +kernel
theorem dX12_standsAt_79 : decode cX12_standsAt 79 = .ok (.iconst 1, 1) := by decide +kernel
theorem dX12_standsAt_80 : decode cX12_standsAt 80 = .ok (.ireturn, 1) := by decide +kernel
theorem dX12_standsFrom_0 : decode cX12_standsFrom 0 = .ok (.iconst 0, 1) := by decide +kernel
theorem dX12_standsFrom_1 : decode cX12_standsFrom 1 = .ok (.istore_n 1, 1) := by decide +kernel
theorem dX12_standsFrom_2 : decode cX12_standsFrom 2 = .ok (.iload_n 1, 1) := by decide +kernel
theorem dX12_standsFrom_3 : decode cX12_standsFrom 3 = .ok (.aload_n 0, 1) := by decide +kernel
theorem dX12_standsFrom_4 : decode cX12_standsFrom 4 = .ok (.getfield 117, 3) := by decide +kernel
theorem dX12_standsFrom_7 : decode cX12_standsFrom 7 = .ok (.iconst 4, 1) := by decide +kernel
theorem dX12_standsFrom_8 : decode cX12_standsFrom 8 = .ok (.iaload, 1) := by decide +kernel
theorem dX12_standsFrom_9 : decode cX12_standsFrom 9 = .ok (.if_icmp .ge 20, 3) := by decide +kernel
theorem dX12_standsFrom_12 : decode cX12_standsFrom 12 = .ok (.aload_n 0, 1) := by decide +kernel
theorem dX12_standsFrom_13 : decode cX12_standsFrom 13 = .ok (.iload_n 1, 1) := by decide +kernel
theorem dX12_standsFrom_14 : decode cX12_standsFrom 14 = .ok (.iconst 0, 1) := by decide +kernel
theorem dX12_standsFrom_15 : decode cX12_standsFrom 15 = .ok (.invokevirtual 438, 3) := by decide +kernel
theorem dX12_standsFrom_18 : decode cX12_standsFrom 18 = .ok (.ifCond .eq 5, 3) := by decide +kernel
theorem dX12_standsFrom_21 : decode cX12_standsFrom 21 = .ok (.iload_n 1, 1) := by decide +kernel
theorem dX12_standsFrom_22 : decode cX12_standsFrom 22 = .ok (.ireturn, 1) := by decide +kernel
theorem dX12_standsFrom_23 : decode cX12_standsFrom 23 = .ok (.iinc 1 1, 3) := by decide +kernel
theorem dX12_standsFrom_26 : decode cX12_standsFrom 26 = .ok (.goto (-24), 3) := by decide +kernel
theorem dX12_standsFrom_29 : decode cX12_standsFrom 29 = .ok (.iconst (-1), 1) := by decide +kernel
theorem dX12_standsFrom_30 : decode cX12_standsFrom 30 = .ok (.ireturn, 1) := by decide +kernel
theorem dX12_stands_0 : decode cX12_stands 0 = .ok (.aload_n 0, 1) := by decide +kernel
theorem dX12_stands_1 : decode cX12_stands 1 = .ok (.iconst 0, 1) := by decide +kernel
theorem dX12_stands_2 : decode cX12_stands 2 = .ok (.putfield 147, 3) := by decide +kernel
theorem dX12_stands_5 : decode cX12_stands 5 = .ok (.aload_n 0, 1) := by decide +kernel
theorem dX12_stands_6 : decode cX12_stands 6 = .ok (.getfield 102, 3) := by decide +kernel
theorem dX12_stands_9 : decode cX12_stands 9 = .ok (.iconst 0, 1) := by decide +kernel
theorem dX12_stands_10 : decode cX12_stands 10 = .ok (.iaload, 1) := by decide +kernel
theorem dX12_stands_11 : decode cX12_stands 11 = .ok (.ifCond .ne 7, 3) := by decide +kernel
theorem dX12_stands_14 : decode cX12_stands 14 = .ok (.iconst (-1), 1) := by decide +kernel
theorem dX12_stands_15 : decode cX12_stands 15 = .ok (.goto 7, 3) := by decide +kernel
theorem dX12_stands_18 : decode cX12_stands 18 = .ok (.aload_n 0, 1) := by decide +kernel
theorem dX12_stands_19 : decode cX12_stands 19 = .ok (.invokevirtual 442, 3) := by decide +kernel
theorem dX12_stands_22 : decode cX12_stands 22 = .ok (.ireturn, 1) := by decide +kernel
theorem dX12_maybe_0 : decode cX12_maybe 0 = .ok (.aload_n 0, 1) := by decide +kernel
theorem dX12_maybe_1 : decode cX12_maybe 1 = .ok (.iconst 0, 1) := by decide +kernel
theorem dX12_maybe_2 : decode cX12_maybe 2 = .ok (.putfield 147, 3) := by decide +kernel
theorem dX12_maybe_5 : decode cX12_maybe 5 = .ok (.aload_n 0, 1) := by decide +kernel
theorem dX12_maybe_6 : decode cX12_maybe 6 = .ok (.getfield 102, 3) := by decide +kernel
theorem dX12_maybe_9 : decode cX12_maybe 9 = .ok (.iconst 0, 1) := by decide +kernel
theorem dX12_maybe_10 : decode cX12_maybe 10 = .ok (.iaload, 1) := by decide +kernel
theorem dX12_maybe_11 : decode cX12_maybe 11 = .ok (.ifCond .ne 5, 3) := by decide +kernel
theorem dX12_maybe_14 : decode cX12_maybe 14 = .ok (.iconst (-1), 1) := by decide +kernel
theorem dX12_maybe_15 : decode cX12_maybe 15 = .ok (.ireturn, 1) := by decide +kernel
theorem dX12_maybe_16 : decode cX12_maybe 16 = .ok (.iconst 0, 1) := by decide +kernel
theorem dX12_maybe_17 : decode cX12_maybe 17 = .ok (.istore_n 1, 1) := by decide +kernel
theorem dX12_maybe_18 : decode cX12_maybe 18 = .ok (.iconst 0, 1) := by decide +kernel
theorem dX12_maybe_19 : decode cX12_maybe 19 = .ok (.istore_n 2, 1) := by decide +kernel
theorem dX12_maybe_20 : decode cX12_maybe 20 = .ok (.iload_n 2, 1) := by decide +kernel
theorem dX12_maybe_21 : decode cX12_maybe 21 = .ok (.aload_n 0, 1) := by decide +kernel
theorem dX12_maybe_22 : decode cX12_maybe 22 = .ok (.getfield 117, 3) := by decide +kernel
theorem dX12_maybe_25 : decode cX12_maybe 25 = .ok (.iconst 4, 1) := by decide +kernel
theorem dX12_maybe_26 : decode cX12_maybe 26 = .ok (.iaload, 1) := by decide +kernel
theorem dX12_maybe_27 : decode cX12_maybe 27 = .ok (.if_icmp .ge 26, 3) := by decide +kernel
theorem dX12_maybe_30 : decode cX12_maybe 30 = .ok (.iload_n 1, 1) := by decide +kernel
theorem dX12_maybe_31 : decode cX12_maybe 31 = .ok (.aload_n 0, 1) := by decide +kernel
theorem dX12_maybe_32 : decode cX12_maybe 32 = .ok (.iload_n 2, 1) := by decide +kernel
theorem dX12_maybe_33 : decode cX12_maybe 33 = .ok (.iconst 1, 1) := by decide +kernel
theorem dX12_maybe_34 : decode cX12_maybe 34 = .ok (.invokevirtual 438, 3) := by decide +kernel
theorem dX12_maybe_37 : decode cX12_maybe 37 = .ok (.ifCond .eq 7, 3) := by decide +kernel
theorem dX12_maybe_40 : decode cX12_maybe 40 = .ok (.iconst 1, 1) := by decide +kernel
theorem dX12_maybe_41 : decode cX12_maybe 41 = .ok (.goto 4, 3) := by decide +kernel
theorem dX12_maybe_44 : decode cX12_maybe 44 = .ok (.iconst 0, 1) := by decide +kernel
theorem dX12_maybe_45 : decode cX12_maybe 45 = .ok (.iadd, 1) := by decide +kernel
theorem dX12_maybe_46 : decode cX12_maybe 46 = .ok (.istore_n 1, 1) := by decide +kernel
theorem dX12_maybe_47 : decode cX12_maybe 47 = .ok (.iinc 2 1, 3) := by decide +kernel
theorem dX12_maybe_50 : decode cX12_maybe 50 = .ok (.goto (-30), 3) := by decide +kernel
theorem dX12_maybe_53 : decode cX12_maybe 53 = .ok (.iload_n 1, 1) := by decide +kernel
theorem dX12_maybe_54 : decode cX12_maybe 54 = .ok (.ireturn, 1) := by decide +kernel
