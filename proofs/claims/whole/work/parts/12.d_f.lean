theorem dX12_top_0 : decode cX12_top 0 = .ok (.aload_n 0, 1) := by decide +kernel
theorem dX12_top_1 : decode cX12_top 1 = .ok (.getfield 222, 3) := by decide +kernel
theorem dX12_top_4 : decode cX12_top 4 = .ok (.iconst 1, 1) := by decide +kernel
theorem dX12_top_5 : decode cX12_top 5 = .ok (.iaload, 1) := by decide +kernel
theorem dX12_top_6 : decode cX12_top 6 = .ok (.istore_n 2, 1) := by decide +kernel
theorem dX12_top_7 : decode cX12_top 7 = .ok (.aload_n 0, 1) := by decide +kernel
theorem dX12_top_8 : decode cX12_top 8 = .ok (.iload_n 2, 1) := by decide +kernel
theorem dX12_top_9 : decode cX12_top 9 = .ok (.aload_n 0, 1) := by decide +kernel
theorem dX12_top_10 : decode cX12_top 10 = .ok (.getfield 222, 3) := by decide +kernel
theorem dX12_top_13 : decode cX12_top 13 = .ok (.iconst 2, 1) := by decide +kernel
theorem dX12_top_14 : decode cX12_top 14 = .ok (.iaload, 1) := by decide +kernel
theorem dX12_top_15 : decode cX12_top 15 = .ok (.invokevirtual 626, 3) := by decide +kernel
theorem dX12_top_18 : decode cX12_top 18 = .ok (.ifCond .eq 12, 3) := by decide +kernel
theorem dX12_top_21 : decode cX12_top 21 = .ok (.aload_n 0, 1) := by decide +kernel
theorem dX12_top_22 : decode cX12_top 22 = .ok (.getfield 34, 3) := by decide +kernel
theorem dX12_top_25 : decode cX12_top 25 = .ok (.iload_n 2, 1) := by decide +kernel
theorem dX12_top_26 : decode cX12_top 26 = .ok (.baload, 1) := by decide +kernel
theorem dX12_top_27 : decode cX12_top 27 = .ok (.ifCond .eq 4, 3) := by decide +kernel
theorem dX12_top_30 : decode cX12_top 30 = .ok (.return_, 1) := by decide +kernel
theorem dX12_top_31 : decode cX12_top 31 = .ok (.aload_n 0, 1) := by decide +kernel
theorem dX12_top_32 : decode cX12_top 32 = .ok (.getfield 65, 3) := by decide +kernel
theorem dX12_top_35 : decode cX12_top 35 = .ok (.iload_n 2, 1) := by decide +kernel
theorem dX12_top_36 : decode cX12_top 36 = .ok (.dup2, 1) := by decide +kernel
theorem dX12_top_37 : decode cX12_top 37 = .ok (.iaload, 1) := by decide +kernel
theorem dX12_top_38 : decode cX12_top 38 = .ok (.iconst 1, 1) := by decide +kernel
theorem dX12_top_39 : decode cX12_top 39 = .ok (.aload_n 0, 1) := by decide +kernel
theorem dX12_top_40 : decode cX12_top 40 = .ok (.getfield 222, 3) := by decide +kernel
theorem dX12_top_43 : decode cX12_top 43 = .ok (.iconst 3, 1) := by decide +kernel
theorem dX12_top_44 : decode cX12_top 44 = .ok (.iaload, 1) := by decide +kernel
theorem dX12_top_45 : decode cX12_top 45 = .ok (.ishl, 1) := by decide +kernel
theorem dX12_top_46 : decode cX12_top 46 = .ok (.ior, 1) := by decide +kernel
theorem dX12_top_47 : decode cX12_top 47 = .ok (.iastore, 1) := by decide +kernel
theorem dX12_top_48 : decode cX12_top 48 = .ok (.aload_n 0, 1) := by decide +kernel
theorem dX12_top_49 : decode cX12_top 49 = .ok (.aload_n 0, 1) := by decide +kernel
theorem dX12_top_50 : decode cX12_top 50 = .ok (.getfield 38, 3) := by decide +kernel
theorem dX12_top_53 : decode cX12_top 53 = .ok (.iload_n 2, 1) := by decide +kernel
theorem dX12_top_54 : decode cX12_top 54 = .ok (.iaload, 1) := by decide +kernel
theorem dX12_top_55 : decode cX12_top 55 = .ok (.putfield 617, 3) := by decide +kernel
theorem dX12_top_58 : decode cX12_top 58 = .ok (.iconst 0, 1) := by decide +kernel
theorem dX12_top_59 : decode cX12_top 59 = .ok (.istore_n 3, 1) := by decide +kernel
theorem dX12_top_60 : decode cX12_top 60 = .ok (.iload_n 3, 1) := by decide +kernel
theorem dX12_top_61 : decode cX12_top 61 = .ok (.aload_n 0, 1) := by decide +kernel
theorem dX12_top_62 : decode cX12_top 62 = .ok (.getfield 617, 3) := by decide +kernel
theorem dX12_top_65 : decode cX12_top 65 = .ok (.if_icmp .ge 43, 3) := by decide +kernel
theorem dX12_top_68 : decode cX12_top 68 = .ok (.aload_n 0, 1) := by decide +kernel
theorem dX12_top_69 : decode cX12_top 69 = .ok (.getfield 289, 3) := by decide +kernel
theorem dX12_top_72 : decode cX12_top 72 = .ok (.iload_n 3, 1) := by decide +kernel
theorem dX12_top_73 : decode cX12_top 73 = .ok (.aload_n 0, 1) := by decide +kernel
theorem dX12_top_74 : decode cX12_top 74 = .ok (.getfield 41, 3) := by decide +kernel
theorem dX12_top_77 : decode cX12_top 77 = .ok (.bipush 10, 2) := by decide +kernel
theorem dX12_top_79 : decode cX12_top 79 = .ok (.iload_n 2, 1) := by decide +kernel
theorem dX12_top_80 : decode cX12_top 80 = .ok (.imul, 1) := by decide +kernel
theorem dX12_top_81 : decode cX12_top 81 = .ok (.iload_n 3, 1) := by decide +kernel
theorem dX12_top_82 : decode cX12_top 82 = .ok (.iadd, 1) := by decide +kernel
theorem dX12_top_83 : decode cX12_top 83 = .ok (.iaload, 1) := by decide +kernel
theorem dX12_top_84 : decode cX12_top 84 = .ok (.iastore, 1) := by decide +kernel
theorem dX12_top_85 : decode cX12_top 85 = .ok (.aload_n 0, 1) := by decide +kernel
theorem dX12_top_86 : decode cX12_top 86 = .ok (.getfield 292, 3) := by decide +kernel
theorem dX12_top_89 : decode cX12_top 89 = .ok (.iload_n 3, 1) := by decide +kernel
theorem dX12_top_90 : decode cX12_top 90 = .ok (.aload_n 0, 1) := by decide +kernel
theorem dX12_top_91 : decode cX12_top 91 = .ok (.getfield 44, 3) := by decide +kernel
theorem dX12_top_94 : decode cX12_top 94 = .ok (.bipush 10, 2) := by decide +kernel
theorem dX12_top_96 : decode cX12_top 96 = .ok (.iload_n 2, 1) := by decide +kernel
theorem dX12_top_97 : decode cX12_top 97 = .ok (.imul, 1) := by decide +kernel
theorem dX12_top_98 : decode cX12_top 98 = .ok (.iload_n 3, 1) := by decide +kernel
theorem dX12_top_99 : decode cX12_top 99 = .ok (.iadd, 1) := by decide +kernel
theorem dX12_top_100 : decode cX12_top 100 = .ok (.iaload, 1) := by decide +kernel
theorem dX12_top_101 : decode cX12_top 101 = .ok (.iastore, 1) := by decide +kernel
theorem dX12_top_102 : decode cX12_top 102 = .ok (.iinc 3 1, 3) := by decide +kernel
theorem dX12_top_105 : decode cX12_top 105 = .ok (.goto (-45), 3) := by decide +kernel
theorem dX12_top_108 : decode cX12_top 108 = .ok (.iconst 0, 1) := by decide +kernel
theorem dX12_top_109 : decode cX12_top 109 = .ok (.istore_n 3, 1) := by decide +kernel
theorem dX12_top_110 : decode cX12_top 110 = .ok (.iload_n 3, 1) := by decide +kernel
theorem dX12_top_111 : decode cX12_top 111 = .ok (.aload_n 0, 1) := by decide +kernel
theorem dX12_top_112 : decode cX12_top 112 = .ok (.getfield 222, 3) := by decide +kernel
theorem dX12_top_115 : decode cX12_top 115 = .ok (.iconst 4, 1) := by decide +kernel
theorem dX12_top_116 : decode cX12_top 116 = .ok (.iaload, 1) := by decide +kernel
theorem dX12_top_117 : decode cX12_top 117 = .ok (.if_icmp .ge 41, 3) := by decide +kernel
theorem dX12_top_120 : decode cX12_top 120 = .ok (.aload_n 0, 1) := by decide +kernel
theorem dX12_top_121 : decode cX12_top 121 = .ok (.aload_n 0, 1) := by decide +kernel
theorem dX12_top_122 : decode cX12_top 122 = .ok (.getfield 222, 3) := by decide +kernel
theorem dX12_top_125 : decode cX12_top 125 = .ok (.bipush 6, 2) := by decide +kernel
theorem dX12_top_127 : decode cX12_top 127 = .ok (.iconst 2, 1) := by decide +kernel
theorem dX12_top_128 : decode cX12_top 128 = .ok (.iload_n 3, 1) := by decide +kernel
theorem dX12_top_129 : decode cX12_top 129 = .ok (.imul, 1) := by decide +kernel
theorem dX12_top_130 : decode cX12_top 130 = .ok (.iadd, 1) := by decide +kernel
theorem dX12_top_131 : decode cX12_top 131 = .ok (.iaload, 1) := by decide +kernel
theorem dX12_top_132 : decode cX12_top 132 = .ok (.aload_n 0, 1) := by decide +kernel
theorem dX12_top_133 : decode cX12_top 133 = .ok (.getfield 222, 3) := by decide +kernel
theorem dX12_top_136 : decode cX12_top 136 = .ok (.bipush 7, 2) := by decide +kernel
theorem dX12_top_138 : decode cX12_top 138 = .ok (.iconst 2, 1) := by decide +kernel
theorem dX12_top_139 : decode cX12_top 139 = .ok (.iload_n 3, 1) := by decide +kernel
theorem dX12_top_140 : decode cX12_top 140 = .ok (.imul, 1) := by decide +kernel
theorem dX12_top_141 : decode cX12_top 141 = .ok (.iadd, 1) := by decide +kernel
theorem dX12_top_142 : decode cX12_top 142 = .ok (.iaload, 1) := by decide +kernel
theorem dX12_top_143 : decode cX12_top 143 = .ok (.aload_n 0, 1) := by decide +kernel
theorem dX12_top_144 : decode cX12_top 144 = .ok (.getfield 16, 3) := by decide +kernel
theorem dX12_top_147 : decode cX12_top 147 = .ok (.iload_n 2, 1) := by decide +kernel
theorem dX12_top_148 : decode cX12_top 148 = .ok (.iaload, 1) := by decide +kernel
theorem dX12_top_149 : decode cX12_top 149 = .ok (.invokevirtual 623, 3) := by decide +kernel
theorem dX12_top_152 : decode cX12_top 152 = .ok (.iinc 3 1, 3) := by decide +kernel
theorem dX12_top_155 : decode cX12_top 155 = .ok (.goto (-45), 3) := by decide +kernel
theorem dX12_top_158 : decode cX12_top 158 = .ok (.aload_n 0, 1) := by decide +kernel
theorem dX12_top_159 : decode cX12_top 159 = .ok (.getfield 38, 3) := by decide +kernel
theorem dX12_top_162 : decode cX12_top 162 = .ok (.iload_n 2, 1) := by decide +kernel
theorem dX12_top_163 : decode cX12_top 163 = .ok (.aload_n 0, 1) := by decide +kernel
theorem dX12_top_164 : decode cX12_top 164 = .ok (.getfield 617, 3) := by decide +kernel
theorem dX12_top_167 : decode cX12_top 167 = .ok (.iastore, 1) := by decide +kernel
theorem dX12_top_168 : decode cX12_top 168 = .ok (.iconst 0, 1) := by decide +kernel
theorem dX12_top_169 : decode cX12_top 169 = .ok (.istore_n 3, 1) := by decide +kernel
theorem dX12_top_170 : decode cX12_top 170 = .ok (.iload_n 3, 1) := by decide +kernel
theorem dX12_top_171 : decode cX12_top 171 = .ok (.aload_n 0, 1) := by decide +kernel
theorem dX12_top_172 : decode cX12_top 172 = .ok (.getfield 617, 3) := by decide +kernel
theorem dX12_top_175 : decode cX12_top 175 = .ok (.if_icmp .ge 43, 3) := by decide +kernel
theorem dX12_top_178 : decode cX12_top 178 = .ok (.aload_n 0, 1) := by decide +kernel
theorem dX12_top_179 : decode cX12_top 179 = .ok (.getfield 41, 3) := by decide +kernel
theorem dX12_top_182 : decode cX12_top 182 = .ok (.bipush 10, 2) := by decide +kernel
theorem dX12_top_184 : decode cX12_top 184 = .ok (.iload_n 2, 1) := by decide +kernel
theorem dX12_top_185 : decode cX12_top 185 = .ok (.imul, 1) := by decide +kernel
theorem dX12_top_186 : decode cX12_top 186 = .ok (.iload_n 3, 1) := by decide +kernel
theorem dX12_top_187 : decode cX12_top 187 = .ok (.iadd, 1) := by decide +kernel
theorem dX12_top_188 : decode cX12_top 188 = .ok (.aload_n 0, 1) := by decide +kernel
theorem dX12_top_189 : decode cX12_top 189 = .ok (.getfield 289, 3) := by decide +kernel
theorem dX12_top_192 : decode cX12_top 192 = .ok (.iload_n 3, 1) := by decide +kernel
theorem dX12_top_193 : decode cX12_top 193 = .ok (.iaload, 1) := by decide +kernel
theorem dX12_top_194 : decode cX12_top 194 = .ok (.iastore, 1) := by decide +kernel
theorem dX12_top_195 : decode cX12_top 195 = .ok (.aload_n 0, 1) := by decide +kernel
theorem dX12_top_196 : decode cX12_top 196 = .ok (.getfield 44, 3) := by decide +kernel
theorem dX12_top_199 : decode cX12_top 199 = .ok (.bipush 10, 2) := by decide +kernel
theorem dX12_top_201 : decode cX12_top 201 = .ok (.iload_n 2, 1) := by decide +kernel
theorem dX12_top_202 : decode cX12_top 202 = .ok (.imul, 1) := by decide +kernel
theorem dX12_top_203 : decode cX12_top 203 = .ok (.iload_n 3, 1) := by decide +kernel
theorem dX12_top_204 : decode cX12_top 204 = .ok (.iadd, 1) := by decide +kernel
theorem dX12_top_205 : decode cX12_top 205 = .ok (.aload_n 0, 1) := by decide +kernel
theorem dX12_top_206 : decode cX12_top 206 = .ok (.getfield 292, 3) := by decide +kernel
theorem dX12_top_209 : decode cX12_top 209 = .ok (.iload_n 3, 1) := by decide +kernel
theorem dX12_top_210 : decode cX12_top 210 = .ok (.iaload, 1) := by decide +kernel
theorem dX12_top_211 : decode cX12_top 211 = .ok (.iastore, 1) := by decide +kernel
theorem dX12_top_212 : decode cX12_top 212 = .ok (.iinc 3 1, 3) := by decide +kernel
theorem dX12_top_215 : decode cX12_top 215 = .ok (.goto (-45), 3) := by decide +kernel
theorem dX12_top_218 : decode cX12_top 218 = .ok (.aload_n 0, 1) := by decide +kernel
theorem dX12_top_219 : decode cX12_top 219 = .ok (.getfield 65, 3) := by decide +kernel
theorem dX12_top_222 : decode cX12_top 222 = .ok (.iload_n 2, 1) := by decide +kernel
theorem dX12_top_223 : decode cX12_top 223 = .ok (.iaload, 1) := by decide +kernel
theorem dX12_top_224 : decode cX12_top 224 = .ok (.iconst 1, 1) := by decide +kernel
theorem dX12_top_225 : decode cX12_top 225 = .ok (.aload_n 0, 1) := by decide +kernel
theorem dX12_top_226 : decode cX12_top 226 = .ok (.getfield 327, 3) := by decide +kernel
theorem dX12_top_229 : decode cX12_top 229 = .ok (.ishl, 1) := by decide +kernel
theorem dX12_top_230 : decode cX12_top 230 = .ok (.iconst 1, 1) := by decide +kernel
theorem dX12_top_231 : decode cX12_top 231 = .ok (.isub, 1) := by decide +kernel
theorem dX12_top_232 : decode cX12_top 232 = .ok (.if_icmp .ne 10, 3) := by decide +kernel
theorem dX12_top_235 : decode cX12_top 235 = .ok (.aload_n 0, 1) := by decide +kernel
theorem dX12_top_236 : decode cX12_top 236 = .ok (.getfield 22, 3) := by decide +kernel
theorem dX12_top_239 : decode cX12_top 239 = .ok (.iload_n 2, 1) := by decide +kernel
theorem dX12_top_240 : decode cX12_top 240 = .ok (.iconst 1, 1) := by decide +kernel
theorem dX12_top_241 : decode cX12_top 241 = .ok (.iastore, 1) := by decide +kernel
theorem dX12_top_242 : decode cX12_top 242 = .ok (.return_, 1) := by decide +kernel
theorem dX12_isPrimary_0 : decode cX12_isPrimary 0 = .ok (.aload_n 0, 1) := by decide +kernel
theorem dX12_isPrimary_1 : decode cX12_isPrimary 1 = .ok (.iload_n 1, 1) := by decide +kernel
theorem dX12_isPrimary_2 : decode cX12_isPrimary 2 = .ok (.iload_n 2, 1) := by decide +kernel
theorem dX12_isPrimary_3 : decode cX12_isPrimary 3 = .ok (.invokevirtual 352, 3) := by decide +kernel
theorem dX12_isPrimary_6 : decode cX12_isPrimary 6 = .ok (.ifCond .eq 22, 3) := by decide +kernel
theorem dX12_isPrimary_9 : decode cX12_isPrimary 9 = .ok (.aload_n 0, 1) := by decide +kernel
theorem dX12_isPrimary_10 : decode cX12_isPrimary 10 = .ok (.getfield 140, 3) := by decide +kernel
theorem dX12_isPrimary_13 : decode cX12_isPrimary 13 = .ok (.aload_n 0, 1) := by decide +kernel
theorem dX12_isPrimary_14 : decode cX12_isPrimary 14 = .ok (.iload_n 1, 1) := by decide +kernel
theorem dX12_isPrimary_15 : decode cX12_isPrimary 15 = .ok (.iload_n 2, 1) := by decide +kernel
theorem dX12_isPrimary_16 : decode cX12_isPrimary 16 = .ok (.invokevirtual 364, 3) := by decide +kernel
theorem dX12_isPrimary_19 : decode cX12_isPrimary 19 = .ok (.iaload, 1) := by decide +kernel
theorem dX12_isPrimary_20 : decode cX12_isPrimary 20 = .ok (.iconst 2, 1) := by decide +kernel
theorem dX12_isPrimary_21 : decode cX12_isPrimary 21 = .ok (.if_icmp .ne 7, 3) := by decide +kernel
theorem dX12_isPrimary_24 : decode cX12_isPrimary 24 = .ok (.iconst 1, 1) := by decide +kernel
theorem dX12_isPrimary_25 : decode cX12_isPrimary 25 = .ok (.goto 4, 3) := by decide +kernel
theorem dX12_isPrimary_28 : decode cX12_isPrimary 28 = .ok (.iconst 0, 1) := by decide +kernel
theorem dX12_isPrimary_29 : decode cX12_isPrimary 29 = .ok (.ireturn, 1) := by decide +kernel
theorem dX12_sendRepl_0 : decode cX12_sendRepl 0 = .ok (.aload_n 0, 1) := by decide +kernel
theorem dX12_sendRepl_1 : decode cX12_sendRepl 1 = .ok (.getfield 219, 3) := by decide +kernel
theorem dX12_sendRepl_4 : decode cX12_sendRepl 4 = .ok (.iconst 0, 1) := by decide +kernel
theorem dX12_sendRepl_5 : decode cX12_sendRepl 5 = .ok (.bipush 6, 2) := by decide +kernel
theorem dX12_sendRepl_7 : decode cX12_sendRepl 7 = .ok (.iastore, 1) := by decide +kernel
theorem dX12_sendRepl_8 : decode cX12_sendRepl 8 = .ok (.aload_n 0, 1) := by decide +kernel
theorem dX12_sendRepl_9 : decode cX12_sendRepl 9 = .ok (.getfield 219, 3) := by decide +kernel
theorem dX12_sendRepl_12 : decode cX12_sendRepl 12 = .ok (.iconst 1, 1) := by decide +kernel
theorem dX12_sendRepl_13 : decode cX12_sendRepl 13 = .ok (.iload_n 1, 1) := by decide +kernel
theorem dX12_sendRepl_14 : decode cX12_sendRepl 14 = .ok (.iconst 4, 1) := by decide +kernel
theorem dX12_sendRepl_15 : decode cX12_sendRepl 15 = .ok (.irem, 1) := by decide +kernel
theorem dX12_sendRepl_16 : decode cX12_sendRepl 16 = .ok (.iastore, 1) := by decide +kernel
theorem dX12_sendRepl_17 : decode cX12_sendRepl 17 = .ok (.aload_n 0, 1) := by decide +kernel
theorem dX12_sendRepl_18 : decode cX12_sendRepl 18 = .ok (.getfield 219, 3) := by decide +kernel
theorem dX12_sendRepl_21 : decode cX12_sendRepl 21 = .ok (.iconst 2, 1) := by decide +kernel
theorem dX12_sendRepl_22 : decode cX12_sendRepl 22 = .ok (.aload_n 0, 1) := by decide +kernel
theorem dX12_sendRepl_23 : decode cX12_sendRepl 23 = .ok (.getfield 125, 3) := by decide +kernel
theorem dX12_sendRepl_26 : decode cX12_sendRepl 26 = .ok (.iload_n 1, 1) := by decide +kernel
theorem dX12_sendRepl_27 : decode cX12_sendRepl 27 = .ok (.iaload, 1) := by decide +kernel
theorem dX12_sendRepl_28 : decode cX12_sendRepl 28 = .ok (.iastore, 1) := by decide +kernel
theorem dX12_sendRepl_29 : decode cX12_sendRepl 29 = .ok (.aload_n 0, 1) := by decide +kernel
theorem dX12_sendRepl_30 : decode cX12_sendRepl 30 = .ok (.getfield 219, 3) := by decide +kernel
theorem dX12_sendRepl_33 : decode cX12_sendRepl 33 = .ok (.iconst 3, 1) := by decide +kernel
theorem dX12_sendRepl_34 : decode cX12_sendRepl 34 = .ok (.iload_n 3, 1) := by decide +kernel
theorem dX12_sendRepl_35 : decode cX12_sendRepl 35 = .ok (.iastore, 1) := by decide +kernel
theorem dX12_sendRepl_36 : decode cX12_sendRepl 36 = .ok (.aload_n 0, 1) := by decide +kernel
theorem dX12_sendRepl_37 : decode cX12_sendRepl 37 = .ok (.getfield 219, 3) := by decide +kernel
theorem dX12_sendRepl_40 : decode cX12_sendRepl 40 = .ok (.iconst 4, 1) := by decide +kernel
theorem dX12_sendRepl_41 : decode cX12_sendRepl 41 = .ok (.aload_n 0, 1) := by decide +kernel
theorem dX12_sendRepl_42 : decode cX12_sendRepl 42 = .ok (.getfield 113, 3) := by decide +kernel
theorem dX12_sendRepl_45 : decode cX12_sendRepl 45 = .ok (.aload_n 0, 1) := by decide +kernel
theorem dX12_sendRepl_46 : decode cX12_sendRepl 46 = .ok (.iload_n 1, 1) := by decide +kernel
theorem dX12_sendRepl_47 : decode cX12_sendRepl 47 = .ok (.iload_n 3, 1) := by decide +kernel
theorem dX12_sendRepl_48 : decode cX12_sendRepl 48 = .ok (.invokevirtual 389, 3) := by decide +kernel
theorem dX12_sendRepl_51 : decode cX12_sendRepl 51 = .ok (.iaload, 1) := by decide +kernel
theorem dX12_sendRepl_52 : decode cX12_sendRepl 52 = .ok (.iastore, 1) := by decide +kernel
theorem dX12_sendRepl_53 : decode cX12_sendRepl 53 = .ok (.aload_n 0, 1) := by decide +kernel
theorem dX12_sendRepl_54 : decode cX12_sendRepl 54 = .ok (.getfield 219, 3) := by decide +kernel
theorem dX12_sendRepl_57 : decode cX12_sendRepl 57 = .ok (.iconst 5, 1) := by decide +kernel
theorem dX12_sendRepl_58 : decode cX12_sendRepl 58 = .ok (.aload_n 0, 1) := by decide +kernel
theorem dX12_sendRepl_59 : decode cX12_sendRepl 59 = .ok (.getfield 134, 3) := by decide +kernel
theorem dX12_sendRepl_62 : decode cX12_sendRepl 62 = .ok (.iload_n 1, 1) := by decide +kernel
theorem dX12_sendRepl_63 : decode cX12_sendRepl 63 = .ok (.iaload, 1) := by decide +kernel
theorem dX12_sendRepl_64 : decode cX12_sendRepl 64 = .ok (.iastore, 1) := by decide +kernel
theorem dX12_sendRepl_65 : decode cX12_sendRepl 65 = .ok (.aload_n 0, 1) := by decide +kernel
theorem dX12_sendRepl_66 : decode cX12_sendRepl 66 = .ok (.iload_n 1, 1) := by decide +kernel
theorem dX12_sendRepl_67 : decode cX12_sendRepl 67 = .ok (.iconst 4, 1) := by decide +kernel
theorem dX12_sendRepl_68 : decode cX12_sendRepl 68 = .ok (.idiv, 1) := by decide +kernel
theorem dX12_sendRepl_69 : decode cX12_sendRepl 69 = .ok (.iload_n 2, 1) := by decide +kernel
theorem dX12_sendRepl_70 : decode cX12_sendRepl 70 = .ok (.bipush 6, 2) := by decide +kernel
theorem dX12_sendRepl_72 : decode cX12_sendRepl 72 = .ok (.invokevirtual 446, 3) := by decide +kernel
theorem dX12_sendRepl_75 : decode cX12_sendRepl 75 = .ok (.return_, 1) := by decide +kernel
theorem dX12_sendAck_0 : decode cX12_sendAck 0 = .ok (.aload_n 0, 1) := by decide +kernel
theorem dX12_sendAck_1 : decode cX12_sendAck 1 = .ok (.getfield 219, 3) := by decide +kernel
theorem dX12_sendAck_4 : decode cX12_sendAck 4 = .ok (.iconst 0, 1) := by decide +kernel
theorem dX12_sendAck_5 : decode cX12_sendAck 5 = .ok (.bipush 7, 2) := by decide +kernel
theorem dX12_sendAck_7 : decode cX12_sendAck 7 = .ok (.iastore, 1) := by decide +kernel
theorem dX12_sendAck_8 : decode cX12_sendAck 8 = .ok (.aload_n 0, 1) := by decide +kernel
theorem dX12_sendAck_9 : decode cX12_sendAck 9 = .ok (.getfield 219, 3) := by decide +kernel
theorem dX12_sendAck_12 : decode cX12_sendAck 12 = .ok (.iconst 1, 1) := by decide +kernel
theorem dX12_sendAck_13 : decode cX12_sendAck 13 = .ok (.iload_n 1, 1) := by decide +kernel
theorem dX12_sendAck_14 : decode cX12_sendAck 14 = .ok (.iconst 4, 1) := by decide +kernel
theorem dX12_sendAck_15 : decode cX12_sendAck 15 = .ok (.irem, 1) := by decide +kernel
theorem dX12_sendAck_16 : decode cX12_sendAck 16 = .ok (.iastore, 1) := by decide +kernel
theorem dX12_sendAck_17 : decode cX12_sendAck 17 = .ok (.aload_n 0, 1) := by decide +kernel
theorem dX12_sendAck_18 : decode cX12_sendAck 18 = .ok (.getfield 219, 3) := by decide +kernel
theorem dX12_sendAck_21 : decode cX12_sendAck 21 = .ok (.iconst 2, 1) := by decide +kernel
theorem dX12_sendAck_22 : decode cX12_sendAck 22 = .ok (.aload_n 0, 1) := by decide +kernel
theorem dX12_sendAck_23 : decode cX12_sendAck 23 = .ok (.getfield 125, 3) := by decide +kernel
theorem dX12_sendAck_26 : decode cX12_sendAck 26 = .ok (.iload_n 1, 1) := by decide +kernel
theorem dX12_sendAck_27 : decode cX12_sendAck 27 = .ok (.iaload, 1) := by decide +kernel
theorem dX12_sendAck_28 : decode cX12_sendAck 28 = .ok (.iastore, 1) := by decide +kernel
theorem dX12_sendAck_29 : decode cX12_sendAck 29 = .ok (.aload_n 0, 1) := by decide +kernel
theorem dX12_sendAck_30 : decode cX12_sendAck 30 = .ok (.getfield 219, 3) := by decide +kernel
theorem dX12_sendAck_33 : decode cX12_sendAck 33 = .ok (.iconst 3, 1) := by decide +kernel
theorem dX12_sendAck_34 : decode cX12_sendAck 34 = .ok (.aload_n 0, 1) := by decide +kernel
theorem dX12_sendAck_35 : decode cX12_sendAck 35 = .ok (.getfield 131, 3) := by decide +kernel
theorem dX12_sendAck_38 : decode cX12_sendAck 38 = .ok (.iload_n 1, 1) := by decide +kernel
theorem dX12_sendAck_39 : decode cX12_sendAck 39 = .ok (.iaload, 1) := by decide +kernel
theorem dX12_sendAck_40 : decode cX12_sendAck 40 = .ok (.iastore, 1) := by decide +kernel
theorem dX12_sendAck_41 : decode cX12_sendAck 41 = .ok (.aload_n 0, 1) := by decide +kernel
theorem dX12_sendAck_42 : decode cX12_sendAck 42 = .ok (.getfield 219, 3) := by decide +kernel
theorem dX12_sendAck_45 : decode cX12_sendAck 45 = .ok (.iconst 4, 1) := by decide +kernel
theorem dX12_sendAck_46 : decode cX12_sendAck 46 = .ok (.aload_n 0, 1) := by decide +kernel
theorem dX12_sendAck_47 : decode cX12_sendAck 47 = .ok (.getfield 137, 3) := by decide +kernel
theorem dX12_sendAck_50 : decode cX12_sendAck 50 = .ok (.iload_n 1, 1) := by decide +kernel
theorem dX12_sendAck_51 : decode cX12_sendAck 51 = .ok (.iaload, 1) := by decide +kernel
theorem dX12_sendAck_52 : decode cX12_sendAck 52 = .ok (.iastore, 1) := by decide +kernel
theorem dX12_sendAck_53 : decode cX12_sendAck 53 = .ok (.aload_n 0, 1) := by decide +kernel
theorem dX12_sendAck_54 : decode cX12_sendAck 54 = .ok (.iload_n 1, 1) := by decide +kernel
theorem dX12_sendAck_55 : decode cX12_sendAck 55 = .ok (.iconst 4, 1) := by decide +kernel
theorem dX12_sendAck_56 : decode cX12_sendAck 56 = .ok (.idiv, 1) := by decide +kernel
theorem dX12_sendAck_57 : decode cX12_sendAck 57 = .ok (.iload_n 2, 1) := by decide +kernel
theorem dX12_sendAck_58 : decode cX12_sendAck 58 = .ok (.iconst 5, 1) := by decide +kernel
theorem dX12_sendAck_59 : decode cX12_sendAck 59 = .ok (.invokevirtual 446, 3) := by decide +kernel
theorem dX12_sendAck_62 : decode cX12_sendAck 62 = .ok (.return_, 1) := by decide +kernel
theorem dX12_writes_0 : decode cX12_writes 0 = .ok (.aload_n 0, 1) := by decide +kernel
theorem dX12_writes_1 : decode cX12_writes 1 = .ok (.getfield 222, 3) := by decide +kernel
theorem dX12_writes_4 : decode cX12_writes 4 = .ok (.iconst 1, 1) := by decide +kernel
theorem dX12_writes_5 : decode cX12_writes 5 = .ok (.iaload, 1) := by decide +kernel
theorem dX12_writes_6 : decode cX12_writes 6 = .ok (.istore_n 3, 1) := by decide +kernel
theorem dX12_writes_7 : decode cX12_writes 7 = .ok (.aload_n 0, 1) := by decide +kernel
theorem dX12_writes_8 : decode cX12_writes 8 = .ok (.getfield 13, 3) := by decide +kernel
theorem dX12_writes_11 : decode cX12_writes 11 = .ok (.iload_n 3, 1) := by decide +kernel
theorem dX12_writes_12 : decode cX12_writes 12 = .ok (.iaload, 1) := by decide +kernel
theorem dX12_writes_13 : decode cX12_writes 13 = .ok (.aload_n 0, 1) := by decide +kernel
theorem dX12_writes_14 : decode cX12_writes 14 = .ok (.getfield 327, 3) := by decide +kernel
theorem dX12_writes_17 : decode cX12_writes 17 = .ok (.irem, 1) := by decide +kernel
theorem dX12_writes_18 : decode cX12_writes 18 = .ok (.istore 4, 2) := by decide +kernel
theorem dX12_writes_20 : decode cX12_writes 20 = .ok (.aload_n 0, 1) := by decide +kernel
theorem dX12_writes_21 : decode cX12_writes 21 = .ok (.iload_n 1, 1) := by decide +kernel
theorem dX12_writes_22 : decode cX12_writes 22 = .ok (.iload 4, 2) := by decide +kernel
theorem dX12_writes_24 : decode cX12_writes 24 = .ok (.invokevirtual 364, 3) := by decide +kernel
theorem dX12_writes_27 : decode cX12_writes 27 = .ok (.istore 5, 2) := by decide +kernel
theorem dX12_writes_29 : decode cX12_writes 29 = .ok (.aload_n 0, 1) := by decide +kernel
theorem dX12_writes_30 : decode cX12_writes 30 = .ok (.iload_n 1, 1) := by decide +kernel
theorem dX12_writes_31 : decode cX12_writes 31 = .ok (.iload 4, 2) := by decide +kernel
theorem dX12_writes_33 : decode cX12_writes 33 = .ok (.invokevirtual 629, 3) := by decide +kernel
theorem dX12_writes_36 : decode cX12_writes 36 = .ok (.ifCond .ne 18, 3) := by decide +kernel
theorem dX12_writes_39 : decode cX12_writes 39 = .ok (.aload_n 0, 1) := by decide +kernel
theorem dX12_writes_40 : decode cX12_writes 40 = .ok (.iload_n 1, 1) := by decide +kernel
theorem dX12_writes_41 : decode cX12_writes 41 = .ok (.iload_n 2, 1) := by decide +kernel
theorem dX12_writes_42 : decode cX12_writes 42 = .ok (.iconst 4, 1) := by decide +kernel
theorem dX12_writes_43 : decode cX12_writes 43 = .ok (.iload_n 3, 1) := by decide +kernel
theorem dX12_writes_44 : decode cX12_writes 44 = .ok (.aload_n 0, 1) := by decide +kernel
theorem dX12_writes_45 : decode cX12_writes 45 = .ok (.getfield 222, 3) := by decide +kernel
theorem dX12_writes_48 : decode cX12_writes 48 = .ok (.iconst 2, 1) := by decide +kernel
theorem dX12_writes_49 : decode cX12_writes 49 = .ok (.iaload, 1) := by decide +kernel
theorem dX12_writes_50 : decode cX12_writes 50 = .ok (.invokevirtual 589, 3) := by decide +kernel
theorem dX12_writes_53 : decode cX12_writes 53 = .ok (.return_, 1) := by decide +kernel
theorem dX12_writes_54 : decode cX12_writes 54 = .ok (.aload_n 0, 1) := by decide +kernel
theorem dX12_writes_55 : decode cX12_writes 55 = .ok (.aload_n 0, 1) := by decide +kernel
theorem dX12_writes_56 : decode cX12_writes 56 = .ok (.iload 5, 2) := by decide +kernel
theorem dX12_writes_58 : decode cX12_writes 58 = .ok (.aload_n 0, 1) := by decide +kernel
theorem dX12_writes_59 : decode cX12_writes 59 = .ok (.getfield 131, 3) := by decide +kernel
theorem dX12_writes_62 : decode cX12_writes 62 = .ok (.iload 5, 2) := by decide +kernel
theorem dX12_writes_64 : decode cX12_writes 64 = .ok (.iaload, 1) := by decide +kernel
theorem dX12_writes_65 : decode cX12_writes 65 = .ok (.invokevirtual 389, 3) := by decide +kernel
theorem dX12_writes_68 : decode cX12_writes 68 = .ok (.iload_n 3, 1) := by decide +kernel
theorem dX12_writes_69 : decode cX12_writes 69 = .ok (.invokevirtual 632, 3) := by decide +kernel
theorem dX12_writes_72 : decode cX12_writes 72 = .ok (.ifCond .eq 46, 3) := by decide +kernel
theorem dX12_writes_75 : decode cX12_writes 75 = .ok (.aload_n 0, 1) := by decide +kernel
theorem dX12_writes_76 : decode cX12_writes 76 = .ok (.aload_n 0, 1) := by decide +kernel
theorem dX12_writes_77 : decode cX12_writes 77 = .ok (.iload 5, 2) := by decide +kernel
theorem dX12_writes_79 : decode cX12_writes 79 = .ok (.aload_n 0, 1) := by decide +kernel
theorem dX12_writes_80 : decode cX12_writes 80 = .ok (.getfield 134, 3) := by decide +kernel
theorem dX12_writes_83 : decode cX12_writes 83 = .ok (.iload 5, 2) := by decide +kernel
theorem dX12_writes_85 : decode cX12_writes 85 = .ok (.iaload, 1) := by decide +kernel
theorem dX12_writes_86 : decode cX12_writes 86 = .ok (.invokevirtual 389, 3) := by decide +kernel
theorem dX12_writes_89 : decode cX12_writes 89 = .ok (.iload_n 3, 1) := by decide +kernel
theorem dX12_writes_90 : decode cX12_writes 90 = .ok (.invokevirtual 632, 3) := by decide +kernel
theorem dX12_writes_93 : decode cX12_writes 93 = .ok (.ifCond .eq 24, 3) := by decide +kernel
theorem dX12_writes_96 : decode cX12_writes 96 = .ok (.aload_n 0, 1) := by decide +kernel
theorem dX12_writes_97 : decode cX12_writes 97 = .ok (.getfield 219, 3) := by decide +kernel
theorem dX12_writes_100 : decode cX12_writes 100 = .ok (.iconst 0, 1) := by decide +kernel
theorem dX12_writes_101 : decode cX12_writes 101 = .ok (.iconst 5, 1) := by decide +kernel
theorem dX12_writes_102 : decode cX12_writes 102 = .ok (.iastore, 1) := by decide +kernel
theorem dX12_writes_103 : decode cX12_writes 103 = .ok (.aload_n 0, 1) := by decide +kernel
theorem dX12_writes_104 : decode cX12_writes 104 = .ok (.getfield 219, 3) := by decide +kernel
theorem dX12_writes_107 : decode cX12_writes 107 = .ok (.iconst 1, 1) := by decide +kernel
theorem dX12_writes_108 : decode cX12_writes 108 = .ok (.iload_n 3, 1) := by decide +kernel
theorem dX12_writes_109 : decode cX12_writes 109 = .ok (.iastore, 1) := by decide +kernel
theorem dX12_writes_110 : decode cX12_writes 110 = .ok (.aload_n 0, 1) := by decide +kernel
theorem dX12_writes_111 : decode cX12_writes 111 = .ok (.iload_n 1, 1) := by decide +kernel
theorem dX12_writes_112 : decode cX12_writes 112 = .ok (.iload_n 2, 1) := by decide +kernel
theorem dX12_writes_113 : decode cX12_writes 113 = .ok (.iconst 2, 1) := by decide +kernel
theorem dX12_writes_114 : decode cX12_writes 114 = .ok (.invokevirtual 446, 3) := by decide +kernel
theorem dX12_writes_117 : decode cX12_writes 117 = .ok (.return_, 1) := by decide +kernel
theorem dX12_writes_118 : decode cX12_writes 118 = .ok (.aload_n 0, 1) := by decide +kernel
theorem dX12_writes_119 : decode cX12_writes 119 = .ok (.getfield 131, 3) := by decide +kernel
theorem dX12_writes_122 : decode cX12_writes 122 = .ok (.iload 5, 2) := by decide +kernel
theorem dX12_writes_124 : decode cX12_writes 124 = .ok (.iaload, 1) := by decide +kernel
theorem dX12_writes_125 : decode cX12_writes 125 = .ok (.aload_n 0, 1) := by decide +kernel
theorem dX12_writes_126 : decode cX12_writes 126 = .ok (.getfield 134, 3) := by decide +kernel
theorem dX12_writes_129 : decode cX12_writes 129 = .ok (.iload 5, 2) := by decide +kernel
theorem dX12_writes_131 : decode cX12_writes 131 = .ok (.iaload, 1) := by decide +kernel
theorem dX12_writes_132 : decode cX12_writes 132 = .ok (.isub, 1) := by decide +kernel
theorem dX12_writes_133 : decode cX12_writes 133 = .ok (.bipush 30, 2) := by decide +kernel
theorem dX12_writes_135 : decode cX12_writes 135 = .ok (.if_icmp .lt 18, 3) := by decide +kernel
theorem dX12_writes_138 : decode cX12_writes 138 = .ok (.aload_n 0, 1) := by decide +kernel
theorem dX12_writes_139 : decode cX12_writes 139 = .ok (.iload_n 1, 1) := by decide +kernel
theorem dX12_writes_140 : decode cX12_writes 140 = .ok (.iload_n 2, 1) := by decide +kernel
theorem dX12_writes_141 : decode cX12_writes 141 = .ok (.iconst 4, 1) := by decide +kernel
theorem dX12_writes_142 : decode cX12_writes 142 = .ok (.iload_n 3, 1) := by decide +kernel
theorem dX12_writes_143 : decode cX12_writes 143 = .ok (.aload_n 0, 1) := by decide +kernel
theorem dX12_writes_144 : decode cX12_writes 144 = .ok (.getfield 222, 3) := by decide +kernel
theorem dX12_writes_147 : decode cX12_writes 147 = .ok (.iconst 2, 1) := by decide +kernel
theorem dX12_writes_148 : decode cX12_writes 148 = .ok (.iaload, 1) := by decide +kernel
theorem dX12_writes_149 : decode cX12_writes 149 = .ok (.invokevirtual 589, 3) := by decide +kernel
theorem dX12_writes_152 : decode cX12_writes 152 = .ok (.return_, 1) := by decide +kernel
theorem dX12_writes_153 : decode cX12_writes 153 = .ok (.aload_n 0, 1) := by decide +kernel
theorem dX12_writes_154 : decode cX12_writes 154 = .ok (.iload 5, 2) := by decide +kernel
theorem dX12_writes_156 : decode cX12_writes 156 = .ok (.iload_n 3, 1) := by decide +kernel
theorem dX12_writes_157 : decode cX12_writes 157 = .ok (.aload_n 0, 1) := by decide +kernel
theorem dX12_writes_158 : decode cX12_writes 158 = .ok (.getfield 125, 3) := by decide +kernel
theorem dX12_writes_161 : decode cX12_writes 161 = .ok (.iload 5, 2) := by decide +kernel
theorem dX12_writes_163 : decode cX12_writes 163 = .ok (.iaload, 1) := by decide +kernel
theorem dX12_writes_164 : decode cX12_writes 164 = .ok (.invokevirtual 635, 3) := by decide +kernel
theorem dX12_writes_167 : decode cX12_writes 167 = .ok (.ifCond .ne 4, 3) := by decide +kernel
theorem dX12_writes_170 : decode cX12_writes 170 = .ok (.return_, 1) := by decide +kernel
theorem dX12_writes_171 : decode cX12_writes 171 = .ok (.iconst 0, 1) := by decide +kernel
theorem dX12_writes_172 : decode cX12_writes 172 = .ok (.istore 6, 2) := by decide +kernel
theorem dX12_writes_174 : decode cX12_writes 174 = .ok (.iload 6, 2) := by decide +kernel
theorem dX12_writes_176 : decode cX12_writes 176 = .ok (.aload_n 0, 1) := by decide +kernel
theorem dX12_writes_177 : decode cX12_writes 177 = .ok (.getfield 321, 3) := by decide +kernel
theorem dX12_writes_180 : decode cX12_writes 180 = .ok (.if_icmp .ge 66, 3) := by decide +kernel
theorem dX12_writes_183 : decode cX12_writes 183 = .ok (.aload_n 0, 1) := by decide +kernel
theorem dX12_writes_184 : decode cX12_writes 184 = .ok (.iload 5, 2) := by decide +kernel
theorem dX12_writes_186 : decode cX12_writes 186 = .ok (.iload 6, 2) := by decide +kernel
theorem dX12_writes_188 : decode cX12_writes 188 = .ok (.invokevirtual 431, 3) := by decide +kernel
theorem dX12_writes_191 : decode cX12_writes 191 = .ok (.ifCond .eq 49, 3) := by decide +kernel
theorem dX12_writes_194 : decode cX12_writes 194 = .ok (.aload_n 0, 1) := by decide +kernel
theorem dX12_writes_195 : decode cX12_writes 195 = .ok (.getfield 158, 3) := by decide +kernel
theorem dX12_writes_198 : decode cX12_writes 198 = .ok (.iconst 5, 1) := by decide +kernel
theorem dX12_writes_199 : decode cX12_writes 199 = .ok (.iload 5, 2) := by decide +kernel
theorem dX12_writes_201 : decode cX12_writes 201 = .ok (.imul, 1) := by decide +kernel
theorem dX12_writes_202 : decode cX12_writes 202 = .ok (.iload 6, 2) := by decide +kernel
theorem dX12_writes_204 : decode cX12_writes 204 = .ok (.iadd, 1) := by decide +kernel
theorem dX12_writes_205 : decode cX12_writes 205 = .ok (.iaload, 1) := by decide +kernel
theorem dX12_writes_206 : decode cX12_writes 206 = .ok (.ifCond .le 34, 3) := by decide +kernel
theorem dX12_writes_209 : decode cX12_writes 209 = .ok (.aload_n 0, 1) := by decide +kernel
theorem dX12_writes_210 : decode cX12_writes 210 = .ok (.getfield 161, 3) := by decide +kernel
theorem dX12_writes_213 : decode cX12_writes 213 = .ok (.iconst 5, 1) := by decide +kernel
theorem dX12_writes_214 : decode cX12_writes 214 = .ok (.iload 5, 2) := by decide +kernel
theorem dX12_writes_216 : decode cX12_writes 216 = .ok (.imul, 1) := by decide +kernel
theorem dX12_writes_217 : decode cX12_writes 217 = .ok (.iload 6, 2) := by decide +kernel
theorem dX12_writes_219 : decode cX12_writes 219 = .ok (.iadd, 1) := by decide +kernel
theorem dX12_writes_220 : decode cX12_writes 220 = .ok (.iaload, 1) := by decide +kernel
theorem dX12_writes_221 : decode cX12_writes 221 = .ok (.iconst (-1), 1) := by decide +kernel
theorem dX12_writes_222 : decode cX12_writes 222 = .ok (.if_icmp .eq 18, 3) := by decide +kernel
theorem dX12_writes_225 : decode cX12_writes 225 = .ok (.aload_n 0, 1) := by decide +kernel
theorem dX12_writes_226 : decode cX12_writes 226 = .ok (.iload 5, 2) := by decide +kernel
theorem dX12_writes_228 : decode cX12_writes 228 = .ok (.iload 6, 2) := by decide +kernel
theorem dX12_writes_230 : decode cX12_writes 230 = .ok (.aload_n 0, 1) := by decide +kernel
theorem dX12_writes_231 : decode cX12_writes 231 = .ok (.getfield 131, 3) := by decide +kernel
theorem dX12_writes_234 : decode cX12_writes 234 = .ok (.iload 5, 2) := by decide +kernel
theorem dX12_writes_236 : decode cX12_writes 236 = .ok (.iaload, 1) := by decide +kernel
theorem dX12_writes_237 : decode cX12_writes 237 = .ok (.invokevirtual 638, 3) := by decide +kernel
theorem dX12_writes_240 : decode cX12_writes 240 = .ok (.iinc 6 1, 3) := by decide +kernel
theorem dX12_writes_243 : decode cX12_writes 243 = .ok (.goto (-69), 3) := by decide +kernel
theorem dX12_writes_246 : decode cX12_writes 246 = .ok (.aload_n 0, 1) := by decide +kernel
theorem dX12_writes_247 : decode cX12_writes 247 = .ok (.iload 5, 2) := by decide +kernel
theorem dX12_writes_249 : decode cX12_writes 249 = .ok (.invokevirtual 456, 3) := by decide +kernel
theorem dX12_writes_252 : decode cX12_writes 252 = .ok (.return_, 1) := by decide +kernel
theorem dX12_want_0 : decode cX12_want 0 = .ok (.aload_n 0, 1) := by decide +kernel
theorem dX12_want_1 : decode cX12_want 1 = .ok (.iload_n 1, 1) := by decide +kernel
theorem dX12_want_2 : decode cX12_want 2 = .ok (.iload_n 2, 1) := by decide +kernel
theorem dX12_want_3 : decode cX12_want 3 = .ok (.bipush 9, 2) := by decide +kernel
theorem dX12_want_5 : decode cX12_want 5 = .ok (.iload_n 3, 1) := by decide +kernel
theorem dX12_want_6 : decode cX12_want 6 = .ok (.iload 4, 2) := by decide +kernel
theorem dX12_want_8 : decode cX12_want 8 = .ok (.invokevirtual 589, 3) := by decide +kernel
theorem dX12_want_11 : decode cX12_want 11 = .ok (.return_, 1) := by decide +kernel
theorem dX12_repl_0 : decode cX12_repl 0 = .ok (.aload_n 0, 1) := by decide +kernel
theorem dX12_repl_1 : decode cX12_repl 1 = .ok (.getfield 222, 3) := by decide +kernel
theorem dX12_repl_4 : decode cX12_repl 4 = .ok (.iconst 1, 1) := by decide +kernel
theorem dX12_repl_5 : decode cX12_repl 5 = .ok (.iaload, 1) := by decide +kernel
theorem dX12_repl_6 : decode cX12_repl 6 = .ok (.istore_n 3, 1) := by decide +kernel
theorem dX12_repl_7 : decode cX12_repl 7 = .ok (.aload_n 0, 1) := by decide +kernel
theorem dX12_repl_8 : decode cX12_repl 8 = .ok (.getfield 222, 3) := by decide +kernel
theorem dX12_repl_11 : decode cX12_repl 11 = .ok (.iconst 2, 1) := by decide +kernel
theorem dX12_repl_12 : decode cX12_repl 12 = .ok (.iaload, 1) := by decide +kernel
theorem dX12_repl_13 : decode cX12_repl 13 = .ok (.istore 4, 2) := by decide +kernel
theorem dX12_repl_15 : decode cX12_repl 15 = .ok (.aload_n 0, 1) := by decide +kernel
theorem dX12_repl_16 : decode cX12_repl 16 = .ok (.iload_n 1, 1) := by decide +kernel
theorem dX12_repl_17 : decode cX12_repl 17 = .ok (.iload_n 3, 1) := by decide +kernel
theorem dX12_repl_18 : decode cX12_repl 18 = .ok (.invokevirtual 352, 3) := by decide +kernel
theorem dX12_repl_21 : decode cX12_repl 21 = .ok (.ifCond .eq 28, 3) := by decide +kernel
theorem dX12_repl_24 : decode cX12_repl 24 = .ok (.iload 4, 2) := by decide +kernel
theorem dX12_repl_26 : decode cX12_repl 26 = .ok (.aload_n 0, 1) := by decide +kernel
theorem dX12_repl_27 : decode cX12_repl 27 = .ok (.getfield 125, 3) := by decide +kernel
theorem dX12_repl_30 : decode cX12_repl 30 = .ok (.aload_n 0, 1) := by decide +kernel
theorem dX12_repl_31 : decode cX12_repl 31 = .ok (.iload_n 1, 1) := by decide +kernel
theorem dX12_repl_32 : decode cX12_repl 32 = .ok (.iload_n 3, 1) := by decide +kernel
theorem dX12_repl_33 : decode cX12_repl 33 = .ok (.invokevirtual 364, 3) := by decide +kernel
theorem dX12_repl_36 : decode cX12_repl 36 = .ok (.iaload, 1) := by decide +kernel
theorem dX12_repl_37 : decode cX12_repl 37 = .ok (.if_icmp .lt 12, 3) := by decide +kernel
theorem dX12_repl_40 : decode cX12_repl 40 = .ok (.aload_n 0, 1) := by decide +kernel
theorem dX12_repl_41 : decode cX12_repl 41 = .ok (.iload_n 1, 1) := by decide +kernel
theorem dX12_repl_42 : decode cX12_repl 42 = .ok (.iload_n 3, 1) := by decide +kernel
theorem dX12_repl_43 : decode cX12_repl 43 = .ok (.invokevirtual 629, 3) := by decide +kernel
theorem dX12_repl_46 : decode cX12_repl 46 = .ok (.ifCond .eq 4, 3) := by decide +kernel
theorem dX12_repl_49 : decode cX12_repl 49 = .ok (.return_, 1) := by decide +kernel
theorem dX12_repl_50 : decode cX12_repl 50 = .ok (.aload_n 0, 1) := by decide +kernel
theorem dX12_repl_51 : decode cX12_repl 51 = .ok (.iload_n 1, 1) := by decide +kernel
theorem dX12_repl_52 : decode cX12_repl 52 = .ok (.iload_n 3, 1) := by decide +kernel
theorem dX12_repl_53 : decode cX12_repl 53 = .ok (.invokevirtual 364, 3) := by decide +kernel
theorem dX12_repl_56 : decode cX12_repl 56 = .ok (.istore 5, 2) := by decide +kernel
theorem dX12_repl_58 : decode cX12_repl 58 = .ok (.iload 4, 2) := by decide +kernel
theorem dX12_repl_60 : decode cX12_repl 60 = .ok (.aload_n 0, 1) := by decide +kernel
theorem dX12_repl_61 : decode cX12_repl 61 = .ok (.getfield 125, 3) := by decide +kernel
theorem dX12_repl_64 : decode cX12_repl 64 = .ok (.iload 5, 2) := by decide +kernel
theorem dX12_repl_66 : decode cX12_repl 66 = .ok (.iaload, 1) := by decide +kernel
theorem dX12_repl_67 : decode cX12_repl 67 = .ok (.if_icmp .le 13, 3) := by decide +kernel
theorem dX12_repl_70 : decode cX12_repl 70 = .ok (.aload_n 0, 1) := by decide +kernel
theorem dX12_repl_71 : decode cX12_repl 71 = .ok (.iload_n 1, 1) := by decide +kernel
theorem dX12_repl_72 : decode cX12_repl 72 = .ok (.iload_n 2, 1) := by decide +kernel
theorem dX12_repl_73 : decode cX12_repl 73 = .ok (.iload_n 3, 1) := by decide +kernel
theorem dX12_repl_74 : decode cX12_repl 74 = .ok (.iload 4, 2) := by decide +kernel
theorem dX12_repl_76 : decode cX12_repl 76 = .ok (.invokevirtual 641, 3) := by decide +kernel
theorem dX12_repl_79 : decode cX12_repl 79 = .ok (.return_, 1) := by decide +kernel
theorem dX12_repl_80 : decode cX12_repl 80 = .ok (.aload_n 0, 1) := by decide +kernel
theorem dX12_repl_81 : decode cX12_repl 81 = .ok (.getfield 134, 3) := by decide +kernel
theorem dX12_repl_84 : decode cX12_repl 84 = .ok (.iload 5, 2) := by decide +kernel
theorem dX12_repl_86 : decode cX12_repl 86 = .ok (.aload_n 0, 1) := by decide +kernel
theorem dX12_repl_87 : decode cX12_repl 87 = .ok (.getfield 134, 3) := by decide +kernel
theorem dX12_repl_90 : decode cX12_repl 90 = .ok (.iload 5, 2) := by decide +kernel
theorem dX12_repl_92 : decode cX12_repl 92 = .ok (.iaload, 1) := by decide +kernel
theorem dX12_repl_93 : decode cX12_repl 93 = .ok (.aload_n 0, 1) := by decide +kernel
theorem dX12_repl_94 : decode cX12_repl 94 = .ok (.getfield 222, 3) := by decide +kernel
theorem dX12_repl_97 : decode cX12_repl 97 = .ok (.iconst 5, 1) := by decide +kernel
theorem dX12_repl_98 : decode cX12_repl 98 = .ok (.iaload, 1) := by decide +kernel
theorem dX12_repl_99 : decode cX12_repl 99 = .ok (.aload_n 0, 1) := by decide +kernel
theorem dX12_repl_100 : decode cX12_repl 100 = .ok (.getfield 131, 3) := by decide +kernel
theorem dX12_repl_103 : decode cX12_repl 103 = .ok (.iload 5, 2) := by decide +kernel
theorem dX12_repl_105 : decode cX12_repl 105 = .ok (.iaload, 1) := by decide +kernel
theorem dX12_repl_106 : decode cX12_repl 106 = .ok (.invokestatic 437, 3) := by decide +kernel
theorem dX12_repl_109 : decode cX12_repl 109 = .ok (.invokestatic 425, 3) := by decide +kernel
theorem dX12_repl_112 : decode cX12_repl 112 = .ok (.iastore, 1) := by decide +kernel
theorem dX12_repl_113 : decode cX12_repl 113 = .ok (.aload_n 0, 1) := by decide +kernel
theorem dX12_repl_114 : decode cX12_repl 114 = .ok (.getfield 222, 3) := by decide +kernel
theorem dX12_repl_117 : decode cX12_repl 117 = .ok (.iconst 3, 1) := by decide +kernel
theorem dX12_repl_118 : decode cX12_repl 118 = .ok (.iaload, 1) := by decide +kernel
theorem dX12_repl_119 : decode cX12_repl 119 = .ok (.aload_n 0, 1) := by decide +kernel
theorem dX12_repl_120 : decode cX12_repl 120 = .ok (.getfield 131, 3) := by decide +kernel
theorem dX12_repl_123 : decode cX12_repl 123 = .ok (.iload 5, 2) := by decide +kernel
theorem dX12_repl_125 : decode cX12_repl 125 = .ok (.iaload, 1) := by decide +kernel
theorem dX12_repl_126 : decode cX12_repl 126 = .ok (.iconst 1, 1) := by decide +kernel
theorem dX12_repl_127 : decode cX12_repl 127 = .ok (.iadd, 1) := by decide +kernel
theorem dX12_repl_128 : decode cX12_repl 128 = .ok (.if_icmp .ne 21, 3) := by decide +kernel
theorem dX12_repl_131 : decode cX12_repl 131 = .ok (.aload_n 0, 1) := by decide +kernel
theorem dX12_repl_132 : decode cX12_repl 132 = .ok (.iload 5, 2) := by decide +kernel
theorem dX12_repl_134 : decode cX12_repl 134 = .ok (.aload_n 0, 1) := by decide +kernel
theorem dX12_repl_135 : decode cX12_repl 135 = .ok (.getfield 222, 3) := by decide +kernel
theorem dX12_repl_138 : decode cX12_repl 138 = .ok (.iconst 4, 1) := by decide +kernel
theorem dX12_repl_139 : decode cX12_repl 139 = .ok (.iaload, 1) := by decide +kernel
theorem dX12_repl_140 : decode cX12_repl 140 = .ok (.iload 4, 2) := by decide +kernel
theorem dX12_repl_142 : decode cX12_repl 142 = .ok (.invokevirtual 635, 3) := by decide +kernel
theorem dX12_repl_145 : decode cX12_repl 145 = .ok (.ifCond .ne 4, 3) := by decide +kernel
theorem dX12_repl_148 : decode cX12_repl 148 = .ok (.return_, 1) := by decide +kernel
theorem dX12_repl_149 : decode cX12_repl 149 = .ok (.aload_n 0, 1) := by decide +kernel
theorem dX12_repl_150 : decode cX12_repl 150 = .ok (.getfield 134, 3) := by decide +kernel
theorem dX12_repl_153 : decode cX12_repl 153 = .ok (.iload 5, 2) := by decide +kernel
theorem dX12_repl_155 : decode cX12_repl 155 = .ok (.aload_n 0, 1) := by decide +kernel
theorem dX12_repl_156 : decode cX12_repl 156 = .ok (.getfield 134, 3) := by decide +kernel
theorem dX12_repl_159 : decode cX12_repl 159 = .ok (.iload 5, 2) := by decide +kernel
theorem dX12_repl_161 : decode cX12_repl 161 = .ok (.iaload, 1) := by decide +kernel
theorem dX12_repl_162 : decode cX12_repl 162 = .ok (.aload_n 0, 1) := by decide +kernel
theorem dX12_repl_163 : decode cX12_repl 163 = .ok (.getfield 222, 3) := by decide +kernel
theorem dX12_repl_166 : decode cX12_repl 166 = .ok (.iconst 5, 1) := by decide +kernel
theorem dX12_repl_167 : decode cX12_repl 167 = .ok (.iaload, 1) := by decide +kernel
theorem dX12_repl_168 : decode cX12_repl 168 = .ok (.aload_n 0, 1) := by decide +kernel
theorem dX12_repl_169 : decode cX12_repl 169 = .ok (.getfield 131, 3) := by decide +kernel
theorem dX12_repl_172 : decode cX12_repl 172 = .ok (.iload 5, 2) := by decide +kernel
theorem dX12_repl_174 : decode cX12_repl 174 = .ok (.iaload, 1) := by decide +kernel
theorem dX12_repl_175 : decode cX12_repl 175 = .ok (.invokestatic 437, 3) := by decide +kernel
theorem dX12_repl_178 : decode cX12_repl 178 = .ok (.invokestatic 425, 3) := by decide +kernel
theorem dX12_repl_181 : decode cX12_repl 181 = .ok (.iastore, 1) := by decide +kernel
theorem dX12_repl_182 : decode cX12_repl 182 = .ok (.aload_n 0, 1) := by decide +kernel
theorem dX12_repl_183 : decode cX12_repl 183 = .ok (.iload 5, 2) := by decide +kernel
theorem dX12_repl_185 : decode cX12_repl 185 = .ok (.iload_n 2, 1) := by decide +kernel
theorem dX12_repl_186 : decode cX12_repl 186 = .ok (.invokevirtual 645, 3) := by decide +kernel
theorem dX12_repl_189 : decode cX12_repl 189 = .ok (.return_, 1) := by decide +kernel
theorem dX12_ack_0 : decode cX12_ack 0 = .ok (.aload_n 0, 1) := by decide +kernel
theorem dX12_ack_1 : decode cX12_ack 1 = .ok (.getfield 222, 3) := by decide +kernel
theorem dX12_ack_4 : decode cX12_ack 4 = .ok (.iconst 1, 1) := by decide +kernel
theorem dX12_ack_5 : decode cX12_ack 5 = .ok (.iaload, 1) := by decide +kernel
theorem dX12_ack_6 : decode cX12_ack 6 = .ok (.istore_n 3, 1) := by decide +kernel
theorem dX12_ack_7 : decode cX12_ack 7 = .ok (.aload_n 0, 1) := by decide +kernel
theorem dX12_ack_8 : decode cX12_ack 8 = .ok (.iload_n 1, 1) := by decide +kernel
theorem dX12_ack_9 : decode cX12_ack 9 = .ok (.iload_n 3, 1) := by decide +kernel
theorem dX12_ack_10 : decode cX12_ack 10 = .ok (.invokevirtual 629, 3) := by decide +kernel
theorem dX12_ack_13 : decode cX12_ack 13 = .ok (.ifCond .eq 23, 3) := by decide +kernel
theorem dX12_ack_16 : decode cX12_ack 16 = .ok (.aload_n 0, 1) := by decide +kernel
theorem dX12_ack_17 : decode cX12_ack 17 = .ok (.getfield 222, 3) := by decide +kernel
theorem dX12_ack_20 : decode cX12_ack 20 = .ok (.iconst 2, 1) := by decide +kernel
theorem dX12_ack_21 : decode cX12_ack 21 = .ok (.iaload, 1) := by decide +kernel
theorem dX12_ack_22 : decode cX12_ack 22 = .ok (.aload_n 0, 1) := by decide +kernel
theorem dX12_ack_23 : decode cX12_ack 23 = .ok (.getfield 125, 3) := by decide +kernel
theorem dX12_ack_26 : decode cX12_ack 26 = .ok (.aload_n 0, 1) := by decide +kernel
theorem dX12_ack_27 : decode cX12_ack 27 = .ok (.iload_n 1, 1) := by decide +kernel
theorem dX12_ack_28 : decode cX12_ack 28 = .ok (.iload_n 3, 1) := by decide +kernel
theorem dX12_ack_29 : decode cX12_ack 29 = .ok (.invokevirtual 364, 3) := by decide +kernel
theorem dX12_ack_32 : decode cX12_ack 32 = .ok (.iaload, 1) := by decide +kernel
theorem dX12_ack_33 : decode cX12_ack 33 = .ok (.if_icmp .eq 4, 3) := by decide +kernel
theorem dX12_ack_36 : decode cX12_ack 36 = .ok (.return_, 1) := by decide +kernel
theorem dX12_ack_37 : decode cX12_ack 37 = .ok (.aload_n 0, 1) := by decide +kernel
theorem dX12_ack_38 : decode cX12_ack 38 = .ok (.iload_n 1, 1) := by decide +kernel
theorem dX12_ack_39 : decode cX12_ack 39 = .ok (.iload_n 3, 1) := by decide +kernel
theorem dX12_ack_40 : decode cX12_ack 40 = .ok (.invokevirtual 364, 3) := by decide +kernel
theorem dX12_ack_43 : decode cX12_ack 43 = .ok (.istore 4, 2) := by decide +kernel
theorem dX12_ack_45 : decode cX12_ack 45 = .ok (.iconst 5, 1) := by decide +kernel
theorem dX12_ack_46 : decode cX12_ack 46 = .ok (.iload 4, 2) := by decide +kernel
theorem dX12_ack_48 : decode cX12_ack 48 = .ok (.imul, 1) := by decide +kernel
theorem dX12_ack_49 : decode cX12_ack 49 = .ok (.iload_n 2, 1) := by decide +kernel
theorem dX12_ack_50 : decode cX12_ack 50 = .ok (.iadd, 1) := by decide +kernel
theorem dX12_ack_51 : decode cX12_ack 51 = .ok (.istore 5, 2) := by decide +kernel
theorem dX12_ack_53 : decode cX12_ack 53 = .ok (.iload_n 2, 1) := by decide +kernel
theorem dX12_ack_54 : decode cX12_ack 54 = .ok (.aload_n 0, 1) := by decide +kernel
theorem dX12_ack_55 : decode cX12_ack 55 = .ok (.getfield 321, 3) := by decide +kernel
theorem dX12_ack_58 : decode cX12_ack 58 = .ok (.if_icmp .ge 13, 3) := by decide +kernel
theorem dX12_ack_61 : decode cX12_ack 61 = .ok (.aload_n 0, 1) := by decide +kernel
theorem dX12_ack_62 : decode cX12_ack 62 = .ok (.getfield 158, 3) := by decide +kernel
theorem dX12_ack_65 : decode cX12_ack 65 = .ok (.iload 5, 2) := by decide +kernel
theorem dX12_ack_67 : decode cX12_ack 67 = .ok (.iaload, 1) := by decide +kernel
theorem dX12_ack_68 : decode cX12_ack 68 = .ok (.ifCond .ne 4, 3) := by decide +kernel
theorem dX12_ack_71 : decode cX12_ack 71 = .ok (.return_, 1) := by decide +kernel
theorem dX12_ack_72 : decode cX12_ack 72 = .ok (.aload_n 0, 1) := by decide +kernel
theorem dX12_ack_73 : decode cX12_ack 73 = .ok (.getfield 161, 3) := by decide +kernel
theorem dX12_ack_76 : decode cX12_ack 76 = .ok (.iload 5, 2) := by decide +kernel
theorem dX12_ack_78 : decode cX12_ack 78 = .ok (.aload_n 0, 1) := by decide +kernel
theorem dX12_ack_79 : decode cX12_ack 79 = .ok (.getfield 222, 3) := by decide +kernel
theorem dX12_ack_82 : decode cX12_ack 82 = .ok (.iconst 3, 1) := by decide +kernel
theorem dX12_ack_83 : decode cX12_ack 83 = .ok (.iaload, 1) := by decide +kernel
theorem dX12_ack_84 : decode cX12_ack 84 = .ok (.iastore, 1) := by decide +kernel
theorem dX12_ack_85 : decode cX12_ack 85 = .ok (.aload_n 0, 1) := by decide +kernel
theorem dX12_ack_86 : decode cX12_ack 86 = .ok (.getfield 164, 3) := by decide +kernel
theorem dX12_ack_89 : decode cX12_ack 89 = .ok (.iload 5, 2) := by decide +kernel
theorem dX12_ack_91 : decode cX12_ack 91 = .ok (.aload_n 0, 1) := by decide +kernel
theorem dX12_ack_92 : decode cX12_ack 92 = .ok (.getfield 222, 3) := by decide +kernel
theorem dX12_ack_95 : decode cX12_ack 95 = .ok (.iconst 4, 1) := by decide +kernel
theorem dX12_ack_96 : decode cX12_ack 96 = .ok (.iaload, 1) := by decide +kernel
theorem dX12_ack_97 : decode cX12_ack 97 = .ok (.iastore, 1) := by decide +kernel
theorem dX12_ack_98 : decode cX12_ack 98 = .ok (.aload_n 0, 1) := by decide +kernel
theorem dX12_ack_99 : decode cX12_ack 99 = .ok (.getfield 167, 3) := by decide +kernel
theorem dX12_ack_102 : decode cX12_ack 102 = .ok (.iload 5, 2) := by decide +kernel
theorem dX12_ack_104 : decode cX12_ack 104 = .ok (.aload_n 0, 1) := by decide +kernel
theorem dX12_ack_105 : decode cX12_ack 105 = .ok (.getfield 330, 3) := by decide +kernel
theorem dX12_ack_108 : decode cX12_ack 108 = .ok (.iastore, 1) := by decide +kernel
theorem dX12_ack_109 : decode cX12_ack 109 = .ok (.aload_n 0, 1) := by decide +kernel
theorem dX12_ack_110 : decode cX12_ack 110 = .ok (.getfield 158, 3) := by decide +kernel
theorem dX12_ack_113 : decode cX12_ack 113 = .ok (.iload 5, 2) := by decide +kernel
theorem dX12_ack_115 : decode cX12_ack 115 = .ok (.iaload, 1) := by decide +kernel
theorem dX12_ack_116 : decode cX12_ack 116 = .ok (.iconst 1, 1) := by decide +kernel
theorem dX12_ack_117 : decode cX12_ack 117 = .ok (.if_icmp .ne 50, 3) := by decide +kernel
theorem dX12_ack_120 : decode cX12_ack 120 = .ok (.aload_n 0, 1) := by decide +kernel
theorem dX12_ack_121 : decode cX12_ack 121 = .ok (.getfield 222, 3) := by decide +kernel
theorem dX12_ack_124 : decode cX12_ack 124 = .ok (.iconst 3, 1) := by decide +kernel
theorem dX12_ack_125 : decode cX12_ack 125 = .ok (.iaload, 1) := by decide +kernel
theorem dX12_ack_126 : decode cX12_ack 126 = .ok (.aload_n 0, 1) := by decide +kernel
theorem dX12_ack_127 : decode cX12_ack 127 = .ok (.getfield 131, 3) := by decide +kernel
theorem dX12_ack_130 : decode cX12_ack 130 = .ok (.iload 4, 2) := by decide +kernel
theorem dX12_ack_132 : decode cX12_ack 132 = .ok (.iaload, 1) := by decide +kernel
theorem dX12_ack_133 : decode cX12_ack 133 = .ok (.if_icmp .ne 34, 3) := by decide +kernel
theorem dX12_ack_136 : decode cX12_ack 136 = .ok (.aload_n 0, 1) := by decide +kernel
theorem dX12_ack_137 : decode cX12_ack 137 = .ok (.getfield 222, 3) := by decide +kernel
theorem dX12_ack_140 : decode cX12_ack 140 = .ok (.iconst 4, 1) := by decide +kernel
theorem dX12_ack_141 : decode cX12_ack 141 = .ok (.iaload, 1) := by decide +kernel
theorem dX12_ack_142 : decode cX12_ack 142 = .ok (.aload_n 0, 1) := by decide +kernel
theorem dX12_ack_143 : decode cX12_ack 143 = .ok (.getfield 137, 3) := by decide +kernel
theorem dX12_ack_146 : decode cX12_ack 146 = .ok (.iload 4, 2) := by decide +kernel
theorem dX12_ack_148 : decode cX12_ack 148 = .ok (.iaload, 1) := by decide +kernel
theorem dX12_ack_149 : decode cX12_ack 149 = .ok (.if_icmp .lt 18, 3) := by decide +kernel
theorem dX12_ack_152 : decode cX12_ack 152 = .ok (.aload_n 0, 1) := by decide +kernel
theorem dX12_ack_153 : decode cX12_ack 153 = .ok (.getfield 158, 3) := by decide +kernel
theorem dX12_ack_156 : decode cX12_ack 156 = .ok (.iload 5, 2) := by decide +kernel
theorem dX12_ack_158 : decode cX12_ack 158 = .ok (.iconst 2, 1) := by decide +kernel
theorem dX12_ack_159 : decode cX12_ack 159 = .ok (.iastore, 1) := by decide +kernel
theorem dX12_ack_160 : decode cX12_ack 160 = .ok (.aload_n 0, 1) := by decide +kernel
theorem dX12_ack_161 : decode cX12_ack 161 = .ok (.iload 4, 2) := by decide +kernel
theorem dX12_ack_163 : decode cX12_ack 163 = .ok (.iload_n 2, 1) := by decide +kernel
theorem dX12_ack_164 : decode cX12_ack 164 = .ok (.invokevirtual 648, 3) := by decide +kernel
theorem dX12_ack_167 : decode cX12_ack 167 = .ok (.aload_n 0, 1) := by decide +kernel
theorem dX12_ack_168 : decode cX12_ack 168 = .ok (.iload 4, 2) := by decide +kernel
theorem dX12_ack_170 : decode cX12_ack 170 = .ok (.invokevirtual 456, 3) := by decide +kernel
theorem dX12_ack_173 : decode cX12_ack 173 = .ok (.return_, 1) := by decide +kernel
theorem dX12_sendAdd_0 : decode cX12_sendAdd 0 = .ok (.aload_n 0, 1) := by decide +kernel
theorem dX12_sendAdd_1 : decode cX12_sendAdd 1 = .ok (.getfield 219, 3) := by decide +kernel
theorem dX12_sendAdd_4 : decode cX12_sendAdd 4 = .ok (.iconst 0, 1) := by decide +kernel
theorem dX12_sendAdd_5 : decode cX12_sendAdd 5 = .ok (.bipush 11, 2) := by decide +kernel
theorem dX12_sendAdd_7 : decode cX12_sendAdd 7 = .ok (.iastore, 1) := by decide +kernel
theorem dX12_sendAdd_8 : decode cX12_sendAdd 8 = .ok (.aload_n 0, 1) := by decide +kernel
theorem dX12_sendAdd_9 : decode cX12_sendAdd 9 = .ok (.getfield 219, 3) := by decide +kernel
theorem dX12_sendAdd_12 : decode cX12_sendAdd 12 = .ok (.iconst 1, 1) := by decide +kernel
theorem dX12_sendAdd_13 : decode cX12_sendAdd 13 = .ok (.iload_n 1, 1) := by decide +kernel
theorem dX12_sendAdd_14 : decode cX12_sendAdd 14 = .ok (.iconst 4, 1) := by decide +kernel
theorem dX12_sendAdd_15 : decode cX12_sendAdd 15 = .ok (.irem, 1) := by decide +kernel
theorem dX12_sendAdd_16 : decode cX12_sendAdd 16 = .ok (.iastore, 1) := by decide +kernel
theorem dX12_sendAdd_17 : decode cX12_sendAdd 17 = .ok (.aload_n 0, 1) := by decide +kernel
theorem dX12_sendAdd_18 : decode cX12_sendAdd 18 = .ok (.getfield 219, 3) := by decide +kernel
theorem dX12_sendAdd_21 : decode cX12_sendAdd 21 = .ok (.iconst 2, 1) := by decide +kernel
theorem dX12_sendAdd_22 : decode cX12_sendAdd 22 = .ok (.aload_n 0, 1) := by decide +kernel
theorem dX12_sendAdd_23 : decode cX12_sendAdd 23 = .ok (.getfield 125, 3) := by decide +kernel
theorem dX12_sendAdd_26 : decode cX12_sendAdd 26 = .ok (.iload_n 1, 1) := by decide +kernel
theorem dX12_sendAdd_27 : decode cX12_sendAdd 27 = .ok (.iaload, 1) := by decide +kernel
theorem dX12_sendAdd_28 : decode cX12_sendAdd 28 = .ok (.iastore, 1) := by decide +kernel
theorem dX12_sendAdd_29 : decode cX12_sendAdd 29 = .ok (.aload_n 0, 1) := by decide +kernel
theorem dX12_sendAdd_30 : decode cX12_sendAdd 30 = .ok (.getfield 219, 3) := by decide +kernel
theorem dX12_sendAdd_33 : decode cX12_sendAdd 33 = .ok (.iconst 3, 1) := by decide +kernel
theorem dX12_sendAdd_34 : decode cX12_sendAdd 34 = .ok (.iload_n 2, 1) := by decide +kernel
theorem dX12_sendAdd_35 : decode cX12_sendAdd 35 = .ok (.iastore, 1) := by decide +kernel
theorem dX12_sendAdd_36 : decode cX12_sendAdd 36 = .ok (.aload_n 0, 1) := by decide +kernel
theorem dX12_sendAdd_37 : decode cX12_sendAdd 37 = .ok (.getfield 219, 3) := by decide +kernel
theorem dX12_sendAdd_40 : decode cX12_sendAdd 40 = .ok (.iconst 4, 1) := by decide +kernel
theorem dX12_sendAdd_41 : decode cX12_sendAdd 41 = .ok (.aload_n 0, 1) := by decide +kernel
theorem dX12_sendAdd_42 : decode cX12_sendAdd 42 = .ok (.getfield 185, 3) := by decide +kernel
theorem dX12_sendAdd_45 : decode cX12_sendAdd 45 = .ok (.iload_n 1, 1) := by decide +kernel
theorem dX12_sendAdd_46 : decode cX12_sendAdd 46 = .ok (.iaload, 1) := by decide +kernel
theorem dX12_sendAdd_47 : decode cX12_sendAdd 47 = .ok (.iastore, 1) := by decide +kernel
theorem dX12_sendAdd_48 : decode cX12_sendAdd 48 = .ok (.aload_n 0, 1) := by decide +kernel
theorem dX12_sendAdd_49 : decode cX12_sendAdd 49 = .ok (.iload_n 1, 1) := by decide +kernel
theorem dX12_sendAdd_50 : decode cX12_sendAdd 50 = .ok (.iconst 4, 1) := by decide +kernel
theorem dX12_sendAdd_51 : decode cX12_sendAdd 51 = .ok (.idiv, 1) := by decide +kernel
theorem dX12_sendAdd_52 : decode cX12_sendAdd 52 = .ok (.aload_n 0, 1) := by decide +kernel
theorem dX12_sendAdd_53 : decode cX12_sendAdd 53 = .ok (.getfield 321, 3) := by decide +kernel
theorem dX12_sendAdd_56 : decode cX12_sendAdd 56 = .ok (.iconst 5, 1) := by decide +kernel
theorem dX12_sendAdd_57 : decode cX12_sendAdd 57 = .ok (.invokevirtual 446, 3) := by decide +kernel
theorem dX12_sendAdd_60 : decode cX12_sendAdd 60 = .ok (.aload_n 0, 1) := by decide +kernel
theorem dX12_sendAdd_61 : decode cX12_sendAdd 61 = .ok (.getfield 170, 3) := by decide +kernel
theorem dX12_sendAdd_64 : decode cX12_sendAdd 64 = .ok (.iconst 5, 1) := by decide +kernel
theorem dX12_sendAdd_65 : decode cX12_sendAdd 65 = .ok (.iload_n 1, 1) := by decide +kernel
theorem dX12_sendAdd_66 : decode cX12_sendAdd 66 = .ok (.imul, 1) := by decide +kernel
theorem dX12_sendAdd_67 : decode cX12_sendAdd 67 = .ok (.iload_n 2, 1) := by decide +kernel
theorem dX12_sendAdd_68 : decode cX12_sendAdd 68 = .ok (.iadd, 1) := by decide +kernel
theorem dX12_sendAdd_69 : decode cX12_sendAdd 69 = .ok (.aload_n 0, 1) := by decide +kernel
theorem dX12_sendAdd_70 : decode cX12_sendAdd 70 = .ok (.getfield 330, 3) := by decide +kernel
theorem dX12_sendAdd_73 : decode cX12_sendAdd 73 = .ok (.iastore, 1) := by decide +kernel
theorem dX12_sendAdd_74 : decode cX12_sendAdd 74 = .ok (.return_, 1) := by decide +kernel
theorem dX12_onWay_0 : decode cX12_onWay 0 = .ok (.iload_n 1, 1) := by decide +kernel
theorem dX12_onWay_1 : decode cX12_onWay 1 = .ok (.istore 4, 2) := by decide +kernel
theorem dX12_onWay_3 : decode cX12_onWay 3 = .ok (.iload_n 2, 1) := by decide +kernel
theorem dX12_onWay_4 : decode cX12_onWay 4 = .ok (.istore 5, 2) := by decide +kernel
theorem dX12_onWay_6 : decode cX12_onWay 6 = .ok (.iload 5, 2) := by decide +kernel
theorem dX12_onWay_8 : decode cX12_onWay 8 = .ok (.iload_n 3, 1) := by decide +kernel
theorem dX12_onWay_9 : decode cX12_onWay 9 = .ok (.if_icmp .le 18, 3) := by decide +kernel
theorem dX12_onWay_12 : decode cX12_onWay 12 = .ok (.aload_n 0, 1) := by decide +kernel
theorem dX12_onWay_13 : decode cX12_onWay 13 = .ok (.getfield 110, 3) := by decide +kernel
theorem dX12_onWay_16 : decode cX12_onWay 16 = .ok (.iload 4, 2) := by decide +kernel
theorem dX12_onWay_18 : decode cX12_onWay 18 = .ok (.iaload, 1) := by decide +kernel
theorem dX12_onWay_19 : decode cX12_onWay 19 = .ok (.istore 4, 2) := by decide +kernel
theorem dX12_onWay_21 : decode cX12_onWay 21 = .ok (.iinc 5 (-1), 3) := by decide +kernel
theorem dX12_onWay_24 : decode cX12_onWay 24 = .ok (.goto (-18), 3) := by decide +kernel
theorem dX12_onWay_27 : decode cX12_onWay 27 = .ok (.iload 4, 2) := by decide +kernel
theorem dX12_onWay_29 : decode cX12_onWay 29 = .ok (.ireturn, 1) := by decide +kernel
theorem dX12_synced_0 : decode cX12_synced 0 = .ok (.aload_n 0, 1) := by decide +kernel
theorem dX12_synced_1 : decode cX12_synced 1 = .ok (.getfield 222, 3) := by decide +kernel
theorem dX12_synced_4 : decode cX12_synced 4 = .ok (.iconst 1, 1) := by decide +kernel
theorem dX12_synced_5 : decode cX12_synced 5 = .ok (.iaload, 1) := by decide +kernel
theorem dX12_synced_6 : decode cX12_synced 6 = .ok (.istore_n 3, 1) := by decide +kernel
theorem dX12_synced_7 : decode cX12_synced 7 = .ok (.aload_n 0, 1) := by decide +kernel
theorem dX12_synced_8 : decode cX12_synced 8 = .ok (.getfield 222, 3) := by decide +kernel
theorem dX12_synced_11 : decode cX12_synced 11 = .ok (.iconst 2, 1) := by decide +kernel
theorem dX12_synced_12 : decode cX12_synced 12 = .ok (.iaload, 1) := by decide +kernel
theorem dX12_synced_13 : decode cX12_synced 13 = .ok (.istore 4, 2) := by decide +kernel
theorem dX12_synced_15 : decode cX12_synced 15 = .ok (.aload_n 0, 1) := by decide +kernel
theorem dX12_synced_16 : decode cX12_synced 16 = .ok (.getfield 222, 3) := by decide +kernel
theorem dX12_synced_19 : decode cX12_synced 19 = .ok (.iconst 3, 1) := by decide +kernel
theorem dX12_synced_20 : decode cX12_synced 20 = .ok (.iaload, 1) := by decide +kernel
theorem dX12_synced_21 : decode cX12_synced 21 = .ok (.istore 5, 2) := by decide +kernel
theorem dX12_synced_23 : decode cX12_synced 23 = .ok (.aload_n 0, 1) := by decide +kernel
theorem dX12_synced_24 : decode cX12_synced 24 = .ok (.getfield 222, 3) := by decide +kernel
theorem dX12_synced_27 : decode cX12_synced 27 = .ok (.iconst 4, 1) := by decide +kernel
theorem dX12_synced_28 : decode cX12_synced 28 = .ok (.iaload, 1) := by decide +kernel
theorem dX12_synced_29 : decode cX12_synced 29 = .ok (.istore 6, 2) := by decide +kernel
theorem dX12_synced_31 : decode cX12_synced 31 = .ok (.aload_n 0, 1) := by decide +kernel
theorem dX12_synced_32 : decode cX12_synced 32 = .ok (.getfield 222, 3) := by decide +kernel
theorem dX12_synced_35 : decode cX12_synced 35 = .ok (.iconst 5, 1) := by decide +kernel
theorem dX12_synced_36 : decode cX12_synced 36 = .ok (.iaload, 1) := by decide +kernel
theorem dX12_synced_37 : decode cX12_synced 37 = .ok (.istore 7, 2) := by decide +kernel
theorem dX12_synced_39 : decode cX12_synced 39 = .ok (.aload_n 0, 1) := by decide +kernel
theorem dX12_synced_40 : decode cX12_synced 40 = .ok (.getfield 222, 3) := by decide +kernel
theorem dX12_synced_43 : decode cX12_synced 43 = .ok (.bipush 7, 2) := by decide +kernel
theorem dX12_synced_45 : decode cX12_synced 45 = .ok (.iaload, 1) := by decide +kernel
theorem dX12_synced_46 : decode cX12_synced 46 = .ok (.istore 8, 2) := by decide +kernel
theorem dX12_synced_48 : decode cX12_synced 48 = .ok (.aload_n 0, 1) := by decide +kernel
theorem dX12_synced_49 : decode cX12_synced 49 = .ok (.getfield 222, 3) := by decide +kernel
theorem dX12_synced_52 : decode cX12_synced 52 = .ok (.bipush 8, 2) := by decide +kernel
theorem dX12_synced_54 : decode cX12_synced 54 = .ok (.iaload, 1) := by decide +kernel
theorem dX12_synced_55 : decode cX12_synced 55 = .ok (.istore 9, 2) := by decide +kernel
theorem dX12_synced_57 : decode cX12_synced 57 = .ok (.aload_n 0, 1) := by decide +kernel
theorem dX12_synced_58 : decode cX12_synced 58 = .ok (.iload_n 1, 1) := by decide +kernel
theorem dX12_synced_59 : decode cX12_synced 59 = .ok (.iload_n 3, 1) := by decide +kernel
theorem dX12_synced_60 : decode cX12_synced 60 = .ok (.invokevirtual 352, 3) := by decide +kernel
theorem dX12_synced_63 : decode cX12_synced 63 = .ok (.ifCond .ne 4, 3) := by decide +kernel
theorem dX12_synced_66 : decode cX12_synced 66 = .ok (.return_, 1) := by decide +kernel
theorem dX12_synced_67 : decode cX12_synced 67 = .ok (.aload_n 0, 1) := by decide +kernel
theorem dX12_synced_68 : decode cX12_synced 68 = .ok (.iload_n 1, 1) := by decide +kernel
theorem dX12_synced_69 : decode cX12_synced 69 = .ok (.iload_n 3, 1) := by decide +kernel
theorem dX12_synced_70 : decode cX12_synced 70 = .ok (.invokevirtual 364, 3) := by decide +kernel
theorem dX12_synced_73 : decode cX12_synced 73 = .ok (.istore 10, 2) := by decide +kernel
theorem dX12_synced_75 : decode cX12_synced 75 = .ok (.iload 4, 2) := by decide +kernel
theorem dX12_synced_77 : decode cX12_synced 77 = .ok (.aload_n 0, 1) := by decide +kernel
theorem dX12_synced_78 : decode cX12_synced 78 = .ok (.getfield 125, 3) := by decide +kernel
theorem dX12_synced_81 : decode cX12_synced 81 = .ok (.iload 10, 2) := by decide +kernel
theorem dX12_synced_83 : decode cX12_synced 83 = .ok (.iaload, 1) := by decide +kernel
theorem dX12_synced_84 : decode cX12_synced 84 = .ok (.if_icmp .lt 26, 3) := by decide +kernel
theorem dX12_synced_87 : decode cX12_synced 87 = .ok (.aload_n 0, 1) := by decide +kernel
theorem dX12_synced_88 : decode cX12_synced 88 = .ok (.getfield 140, 3) := by decide +kernel
theorem dX12_synced_91 : decode cX12_synced 91 = .ok (.iload 10, 2) := by decide +kernel
theorem dX12_synced_93 : decode cX12_synced 93 = .ok (.iaload, 1) := by decide +kernel
theorem dX12_synced_94 : decode cX12_synced 94 = .ok (.iconst 2, 1) := by decide +kernel
theorem dX12_synced_95 : decode cX12_synced 95 = .ok (.if_icmp .ne 16, 3) := by decide +kernel
theorem dX12_synced_98 : decode cX12_synced 98 = .ok (.iload 4, 2) := by decide +kernel
theorem dX12_synced_100 : decode cX12_synced 100 = .ok (.aload_n 0, 1) := by decide +kernel
theorem dX12_synced_101 : decode cX12_synced 101 = .ok (.getfield 125, 3) := by decide +kernel
theorem dX12_synced_104 : decode cX12_synced 104 = .ok (.iload 10, 2) := by decide +kernel
theorem dX12_synced_106 : decode cX12_synced 106 = .ok (.iaload, 1) := by decide +kernel
theorem dX12_synced_107 : decode cX12_synced 107 = .ok (.if_icmp .ne 4, 3) := by decide +kernel
theorem dX12_synced_110 : decode cX12_synced 110 = .ok (.return_, 1) := by decide +kernel
theorem dX12_synced_111 : decode cX12_synced 111 = .ok (.aload_n 0, 1) := by decide +kernel
theorem dX12_synced_112 : decode cX12_synced 112 = .ok (.getfield 140, 3) := by decide +kernel
theorem dX12_synced_115 : decode cX12_synced 115 = .ok (.iload 10, 2) := by decide +kernel
theorem dX12_synced_117 : decode cX12_synced 117 = .ok (.iaload, 1) := by decide +kernel
theorem dX12_synced_118 : decode cX12_synced 118 = .ok (.iconst 2, 1) := by decide +kernel
theorem dX12_synced_119 : decode cX12_synced 119 = .ok (.if_icmp .ne 19, 3) := by decide +kernel
theorem dX12_synced_122 : decode cX12_synced 122 = .ok (.aload_n 0, 1) := by decide +kernel
theorem dX12_synced_123 : decode cX12_synced 123 = .ok (.getfield 140, 3) := by decide +kernel
theorem dX12_synced_126 : decode cX12_synced 126 = .ok (.iload 10, 2) := by decide +kernel
theorem dX12_synced_128 : decode cX12_synced 128 = .ok (.iconst 1, 1) := by decide +kernel
theorem dX12_synced_129 : decode cX12_synced 129 = .ok (.iastore, 1) := by decide +kernel
theorem dX12_synced_130 : decode cX12_synced 130 = .ok (.aload_n 0, 1) := by decide +kernel
theorem dX12_synced_131 : decode cX12_synced 131 = .ok (.getfield 149, 3) := by decide +kernel
theorem dX12_synced_134 : decode cX12_synced 134 = .ok (.iload 10, 2) := by decide +kernel
theorem dX12_synced_136 : decode cX12_synced 136 = .ok (.iconst 0, 1) := by decide +kernel
theorem dX12_synced_137 : decode cX12_synced 137 = .ok (.iastore, 1) := by decide +kernel
theorem dX12_synced_138 : decode cX12_synced 138 = .ok (.aload_n 0, 1) := by decide +kernel
theorem dX12_synced_139 : decode cX12_synced 139 = .ok (.getfield 134, 3) := by decide +kernel
theorem dX12_synced_142 : decode cX12_synced 142 = .ok (.iload 10, 2) := by decide +kernel
theorem dX12_synced_144 : decode cX12_synced 144 = .ok (.iaload, 1) := by decide +kernel
theorem dX12_synced_145 : decode cX12_synced 145 = .ok (.iload 5, 2) := by decide +kernel
theorem dX12_synced_147 : decode cX12_synced 147 = .ok (.invokestatic 425, 3) := by decide +kernel
theorem dX12_synced_150 : decode cX12_synced 150 = .ok (.istore 11, 2) := by decide +kernel
theorem dX12_synced_152 : decode cX12_synced 152 = .ok (.iload 11, 2) := by decide +kernel
theorem dX12_synced_154 : decode cX12_synced 154 = .ok (.aload_n 0, 1) := by decide +kernel
theorem dX12_synced_155 : decode cX12_synced 155 = .ok (.getfield 131, 3) := by decide +kernel
theorem dX12_synced_158 : decode cX12_synced 158 = .ok (.iload 10, 2) := by decide +kernel
theorem dX12_synced_160 : decode cX12_synced 160 = .ok (.iaload, 1) := by decide +kernel
theorem dX12_synced_161 : decode cX12_synced 161 = .ok (.if_icmp .ge 51, 3) := by decide +kernel
theorem dX12_synced_164 : decode cX12_synced 164 = .ok (.iload 11, 2) := by decide +kernel
theorem dX12_synced_166 : decode cX12_synced 166 = .ok (.iload 7, 2) := by decide +kernel
theorem dX12_synced_168 : decode cX12_synced 168 = .ok (.if_icmp .ge 44, 3) := by decide +kernel
theorem dX12_synced_171 : decode cX12_synced 171 = .ok (.aload_n 0, 1) := by decide +kernel
theorem dX12_synced_172 : decode cX12_synced 172 = .ok (.getfield 113, 3) := by decide +kernel
theorem dX12_synced_175 : decode cX12_synced 175 = .ok (.aload_n 0, 1) := by decide +kernel
theorem dX12_synced_176 : decode cX12_synced 176 = .ok (.iload 10, 2) := by decide +kernel
theorem dX12_synced_178 : decode cX12_synced 178 = .ok (.iload 11, 2) := by decide +kernel
theorem dX12_synced_180 : decode cX12_synced 180 = .ok (.iconst 1, 1) := by decide +kernel
theorem dX12_synced_181 : decode cX12_synced 181 = .ok (.iadd, 1) := by decide +kernel
theorem dX12_synced_182 : decode cX12_synced 182 = .ok (.invokevirtual 389, 3) := by decide +kernel
theorem dX12_synced_185 : decode cX12_synced 185 = .ok (.iaload, 1) := by decide +kernel
theorem dX12_synced_186 : decode cX12_synced 186 = .ok (.aload_n 0, 1) := by decide +kernel
theorem dX12_synced_187 : decode cX12_synced 187 = .ok (.getfield 113, 3) := by decide +kernel
theorem dX12_synced_190 : decode cX12_synced 190 = .ok (.aload_n 0, 1) := by decide +kernel
theorem dX12_synced_191 : decode cX12_synced 191 = .ok (.iload 8, 2) := by decide +kernel
theorem dX12_synced_193 : decode cX12_synced 193 = .ok (.iload 7, 2) := by decide +kernel
theorem dX12_synced_195 : decode cX12_synced 195 = .ok (.iload 11, 2) := by decide +kernel
theorem dX12_synced_197 : decode cX12_synced 197 = .ok (.iconst 1, 1) := by decide +kernel
theorem dX12_synced_198 : decode cX12_synced 198 = .ok (.iadd, 1) := by decide +kernel
theorem dX12_synced_199 : decode cX12_synced 199 = .ok (.invokevirtual 651, 3) := by decide +kernel
theorem dX12_synced_202 : decode cX12_synced 202 = .ok (.iaload, 1) := by decide +kernel
theorem dX12_synced_203 : decode cX12_synced 203 = .ok (.if_icmp .ne 9, 3) := by decide +kernel
theorem dX12_synced_206 : decode cX12_synced 206 = .ok (.iinc 11 1, 3) := by decide +kernel
theorem dX12_synced_209 : decode cX12_synced 209 = .ok (.goto (-57), 3) := by decide +kernel
theorem dX12_synced_212 : decode cX12_synced 212 = .ok (.aload_n 0, 1) := by decide +kernel
theorem dX12_synced_213 : decode cX12_synced 213 = .ok (.getfield 134, 3) := by decide +kernel
theorem dX12_synced_216 : decode cX12_synced 216 = .ok (.iload 10, 2) := by decide +kernel
theorem dX12_synced_218 : decode cX12_synced 218 = .ok (.iaload, 1) := by decide +kernel
theorem dX12_synced_219 : decode cX12_synced 219 = .ok (.iload 5, 2) := by decide +kernel
theorem dX12_synced_221 : decode cX12_synced 221 = .ok (.if_icmp .ge 156, 3) := by decide +kernel
theorem dX12_synced_224 : decode cX12_synced 224 = .ok (.aload_n 0, 1) := by decide +kernel
theorem dX12_synced_225 : decode cX12_synced 225 = .ok (.getfield 222, 3) := by decide +kernel
theorem dX12_synced_228 : decode cX12_synced 228 = .ok (.bipush 6, 2) := by decide +kernel
theorem dX12_synced_230 : decode cX12_synced 230 = .ok (.iaload, 1) := by decide +kernel
theorem dX12_synced_231 : decode cX12_synced 231 = .ok (.istore 12, 2) := by decide +kernel
theorem dX12_synced_233 : decode cX12_synced 233 = .ok (.aload_n 0, 1) := by decide +kernel
theorem dX12_synced_234 : decode cX12_synced 234 = .ok (.getfield 146, 3) := by decide +kernel
theorem dX12_synced_237 : decode cX12_synced 237 = .ok (.sipush 700, 3) := by decide +kernel
theorem dX12_synced_240 : decode cX12_synced 240 = .ok (.iload 10, 2) := by decide +kernel
theorem dX12_synced_242 : decode cX12_synced 242 = .ok (.imul, 1) := by decide +kernel
theorem dX12_synced_243 : decode cX12_synced 243 = .ok (.iload 5, 2) := by decide +kernel
theorem dX12_synced_245 : decode cX12_synced 245 = .ok (.iadd, 1) := by decide +kernel
theorem dX12_synced_246 : decode cX12_synced 246 = .ok (.iload 12, 2) := by decide +kernel
theorem dX12_synced_248 : decode cX12_synced 248 = .ok (.iastore, 1) := by decide +kernel
theorem dX12_synced_249 : decode cX12_synced 249 = .ok (.iload 5, 2) := by decide +kernel
theorem dX12_synced_251 : decode cX12_synced 251 = .ok (.iconst 1, 1) := by decide +kernel
theorem dX12_synced_252 : decode cX12_synced 252 = .ok (.iadd, 1) := by decide +kernel
theorem dX12_synced_253 : decode cX12_synced 253 = .ok (.istore 13, 2) := by decide +kernel
theorem dX12_synced_255 : decode cX12_synced 255 = .ok (.iload 13, 2) := by decide +kernel
theorem dX12_synced_257 : decode cX12_synced 257 = .ok (.iload 11, 2) := by decide +kernel
theorem dX12_synced_259 : decode cX12_synced 259 = .ok (.if_icmp .gt 59, 3) := by decide +kernel
theorem dX12_synced_262 : decode cX12_synced 262 = .ok (.aload_n 0, 1) := by decide +kernel
theorem dX12_synced_263 : decode cX12_synced 263 = .ok (.iload 12, 2) := by decide +kernel
theorem dX12_synced_265 : decode cX12_synced 265 = .ok (.aload_n 0, 1) := by decide +kernel
theorem dX12_synced_266 : decode cX12_synced 266 = .ok (.getfield 113, 3) := by decide +kernel
theorem dX12_synced_269 : decode cX12_synced 269 = .ok (.aload_n 0, 1) := by decide +kernel
theorem dX12_synced_270 : decode cX12_synced 270 = .ok (.iload 10, 2) := by decide +kernel
theorem dX12_synced_272 : decode cX12_synced 272 = .ok (.iload 13, 2) := by decide +kernel
theorem dX12_synced_274 : decode cX12_synced 274 = .ok (.invokevirtual 389, 3) := by decide +kernel
theorem dX12_synced_277 : decode cX12_synced 277 = .ok (.iaload, 1) := by decide +kernel
theorem dX12_synced_278 : decode cX12_synced 278 = .ok (.aload_n 0, 1) := by decide +kernel
theorem dX12_synced_279 : decode cX12_synced 279 = .ok (.getfield 116, 3) := by decide +kernel
theorem dX12_synced_282 : decode cX12_synced 282 = .ok (.aload_n 0, 1) := by decide +kernel
theorem dX12_synced_283 : decode cX12_synced 283 = .ok (.iload 10, 2) := by decide +kernel
theorem dX12_synced_285 : decode cX12_synced 285 = .ok (.iload 13, 2) := by decide +kernel
theorem dX12_synced_287 : decode cX12_synced 287 = .ok (.invokevirtual 389, 3) := by decide +kernel
theorem dX12_synced_290 : decode cX12_synced 290 = .ok (.iaload, 1) := by decide +kernel
theorem dX12_synced_291 : decode cX12_synced 291 = .ok (.invokevirtual 421, 3) := by decide +kernel
theorem dX12_synced_294 : decode cX12_synced 294 = .ok (.istore 12, 2) := by decide +kernel
theorem dX12_synced_296 : decode cX12_synced 296 = .ok (.aload_n 0, 1) := by decide +kernel
theorem dX12_synced_297 : decode cX12_synced 297 = .ok (.getfield 146, 3) := by decide +kernel
theorem dX12_synced_300 : decode cX12_synced 300 = .ok (.sipush 700, 3) := by decide +kernel
theorem dX12_synced_303 : decode cX12_synced 303 = .ok (.iload 10, 2) := by decide +kernel
theorem dX12_synced_305 : decode cX12_synced 305 = .ok (.imul, 1) := by decide +kernel
theorem dX12_synced_306 : decode cX12_synced 306 = .ok (.iload 13, 2) := by decide +kernel
theorem dX12_synced_308 : decode cX12_synced 308 = .ok (.iadd, 1) := by decide +kernel
theorem dX12_synced_309 : decode cX12_synced 309 = .ok (.iload 12, 2) := by decide +kernel
theorem dX12_synced_311 : decode cX12_synced 311 = .ok (.iastore, 1) := by decide +kernel
theorem dX12_synced_312 : decode cX12_synced 312 = .ok (.iinc 13 1, 3) := by decide +kernel
theorem dX12_synced_315 : decode cX12_synced 315 = .ok (.goto (-60), 3) := by decide +kernel
theorem dX12_synced_318 : decode cX12_synced 318 = .ok (.aload_n 0, 1) := by decide +kernel
theorem dX12_synced_319 : decode cX12_synced 319 = .ok (.getfield 128, 3) := by decide +kernel
theorem dX12_synced_322 : decode cX12_synced 322 = .ok (.iload 10, 2) := by decide +kernel
theorem dX12_synced_324 : decode cX12_synced 324 = .ok (.iload 5, 2) := by decide +kernel
theorem dX12_synced_326 : decode cX12_synced 326 = .ok (.iastore, 1) := by decide +kernel
theorem dX12_synced_327 : decode cX12_synced 327 = .ok (.aload_n 0, 1) := by decide +kernel
theorem dX12_synced_328 : decode cX12_synced 328 = .ok (.getfield 131, 3) := by decide +kernel
theorem dX12_synced_331 : decode cX12_synced 331 = .ok (.iload 10, 2) := by decide +kernel
theorem dX12_synced_333 : decode cX12_synced 333 = .ok (.iload 11, 2) := by decide +kernel
theorem dX12_synced_335 : decode cX12_synced 335 = .ok (.iastore, 1) := by decide +kernel
theorem dX12_synced_336 : decode cX12_synced 336 = .ok (.aload_n 0, 1) := by decide +kernel
theorem dX12_synced_337 : decode cX12_synced 337 = .ok (.getfield 134, 3) := by decide +kernel
theorem dX12_synced_340 : decode cX12_synced 340 = .ok (.iload 10, 2) := by decide +kernel
theorem dX12_synced_342 : decode cX12_synced 342 = .ok (.iload 5, 2) := by decide +kernel
theorem dX12_synced_344 : decode cX12_synced 344 = .ok (.iload 6, 2) := by decide +kernel
theorem dX12_synced_346 : decode cX12_synced 346 = .ok (.iload 11, 2) := by decide +kernel
theorem dX12_synced_348 : decode cX12_synced 348 = .ok (.invokestatic 437, 3) := by decide +kernel
theorem dX12_synced_351 : decode cX12_synced 351 = .ok (.invokestatic 425, 3) := by decide +kernel
theorem dX12_synced_354 : decode cX12_synced 354 = .ok (.iastore, 1) := by decide +kernel
theorem dX12_synced_355 : decode cX12_synced 355 = .ok (.aload_n 0, 1) := by decide +kernel
theorem dX12_synced_356 : decode cX12_synced 356 = .ok (.getfield 125, 3) := by decide +kernel
theorem dX12_synced_359 : decode cX12_synced 359 = .ok (.iload 10, 2) := by decide +kernel
theorem dX12_synced_361 : decode cX12_synced 361 = .ok (.iload 4, 2) := by decide +kernel
theorem dX12_synced_363 : decode cX12_synced 363 = .ok (.iastore, 1) := by decide +kernel
theorem dX12_synced_364 : decode cX12_synced 364 = .ok (.aload_n 0, 1) := by decide +kernel
theorem dX12_synced_365 : decode cX12_synced 365 = .ok (.iload 10, 2) := by decide +kernel
theorem dX12_synced_367 : decode cX12_synced 367 = .ok (.invokevirtual 408, 3) := by decide +kernel
theorem dX12_synced_370 : decode cX12_synced 370 = .ok (.ifCond .ne 4, 3) := by decide +kernel
theorem dX12_synced_373 : decode cX12_synced 373 = .ok (.return_, 1) := by decide +kernel
theorem dX12_synced_374 : decode cX12_synced 374 = .ok (.goto 41, 3) := by decide +kernel
theorem dX12_synced_377 : decode cX12_synced 377 = .ok (.iload 11, 2) := by decide +kernel
theorem dX12_synced_379 : decode cX12_synced 379 = .ok (.aload_n 0, 1) := by decide +kernel
theorem dX12_synced_380 : decode cX12_synced 380 = .ok (.getfield 131, 3) := by decide +kernel
theorem dX12_synced_383 : decode cX12_synced 383 = .ok (.iload 10, 2) := by decide +kernel
theorem dX12_synced_385 : decode cX12_synced 385 = .ok (.iaload, 1) := by decide +kernel
theorem dX12_synced_386 : decode cX12_synced 386 = .ok (.if_icmp .lt 15, 3) := by decide +kernel
theorem dX12_synced_389 : decode cX12_synced 389 = .ok (.iload 4, 2) := by decide +kernel
theorem dX12_synced_391 : decode cX12_synced 391 = .ok (.aload_n 0, 1) := by decide +kernel
theorem dX12_synced_392 : decode cX12_synced 392 = .ok (.getfield 125, 3) := by decide +kernel
theorem dX12_synced_395 : decode cX12_synced 395 = .ok (.iload 10, 2) := by decide +kernel
theorem dX12_synced_397 : decode cX12_synced 397 = .ok (.iaload, 1) := by decide +kernel
theorem dX12_synced_398 : decode cX12_synced 398 = .ok (.if_icmp .le 17, 3) := by decide +kernel
theorem dX12_synced_401 : decode cX12_synced 401 = .ok (.aload_n 0, 1) := by decide +kernel
theorem dX12_synced_402 : decode cX12_synced 402 = .ok (.iload 10, 2) := by decide +kernel
theorem dX12_synced_404 : decode cX12_synced 404 = .ok (.iload 11, 2) := by decide +kernel
theorem dX12_synced_406 : decode cX12_synced 406 = .ok (.iload 4, 2) := by decide +kernel
theorem dX12_synced_408 : decode cX12_synced 408 = .ok (.invokevirtual 449, 3) := by decide +kernel
theorem dX12_synced_411 : decode cX12_synced 411 = .ok (.ifCond .ne 4, 3) := by decide +kernel
theorem dX12_synced_414 : decode cX12_synced 414 = .ok (.return_, 1) := by decide +kernel
theorem dX12_synced_415 : decode cX12_synced 415 = .ok (.aload_n 0, 1) := by decide +kernel
theorem dX12_synced_416 : decode cX12_synced 416 = .ok (.getfield 131, 3) := by decide +kernel
theorem dX12_synced_419 : decode cX12_synced 419 = .ok (.iload 10, 2) := by decide +kernel
theorem dX12_synced_421 : decode cX12_synced 421 = .ok (.iaload, 1) := by decide +kernel
theorem dX12_synced_422 : decode cX12_synced 422 = .ok (.iload 7, 2) := by decide +kernel
theorem dX12_synced_424 : decode cX12_synced 424 = .ok (.if_icmp .ge 73, 3) := by decide +kernel
theorem dX12_synced_427 : decode cX12_synced 427 = .ok (.aload_n 0, 1) := by decide +kernel
theorem dX12_synced_428 : decode cX12_synced 428 = .ok (.iload 8, 2) := by decide +kernel
theorem dX12_synced_430 : decode cX12_synced 430 = .ok (.iload 7, 2) := by decide +kernel
theorem dX12_synced_432 : decode cX12_synced 432 = .ok (.aload_n 0, 1) := by decide +kernel
theorem dX12_synced_433 : decode cX12_synced 433 = .ok (.getfield 131, 3) := by decide +kernel
theorem dX12_synced_436 : decode cX12_synced 436 = .ok (.iload 10, 2) := by decide +kernel
theorem dX12_synced_438 : decode cX12_synced 438 = .ok (.iaload, 1) := by decide +kernel
theorem dX12_synced_439 : decode cX12_synced 439 = .ok (.iconst 1, 1) := by decide +kernel
theorem dX12_synced_440 : decode cX12_synced 440 = .ok (.iadd, 1) := by decide +kernel
theorem dX12_synced_441 : decode cX12_synced 441 = .ok (.invokevirtual 651, 3) := by decide +kernel
theorem dX12_synced_444 : decode cX12_synced 444 = .ok (.istore 12, 2) := by decide +kernel
theorem dX12_synced_446 : decode cX12_synced 446 = .ok (.aload_n 0, 1) := by decide +kernel
theorem dX12_synced_447 : decode cX12_synced 447 = .ok (.getfield 134, 3) := by decide +kernel
theorem dX12_synced_450 : decode cX12_synced 450 = .ok (.iload 10, 2) := by decide +kernel
theorem dX12_synced_452 : decode cX12_synced 452 = .ok (.aload_n 0, 1) := by decide +kernel
theorem dX12_synced_453 : decode cX12_synced 453 = .ok (.getfield 134, 3) := by decide +kernel
theorem dX12_synced_456 : decode cX12_synced 456 = .ok (.iload 10, 2) := by decide +kernel
theorem dX12_synced_458 : decode cX12_synced 458 = .ok (.iaload, 1) := by decide +kernel
theorem dX12_synced_459 : decode cX12_synced 459 = .ok (.iload 6, 2) := by decide +kernel
theorem dX12_synced_461 : decode cX12_synced 461 = .ok (.aload_n 0, 1) := by decide +kernel
theorem dX12_synced_462 : decode cX12_synced 462 = .ok (.getfield 131, 3) := by decide +kernel
theorem dX12_synced_465 : decode cX12_synced 465 = .ok (.iload 10, 2) := by decide +kernel
theorem dX12_synced_467 : decode cX12_synced 467 = .ok (.iaload, 1) := by decide +kernel
theorem dX12_synced_468 : decode cX12_synced 468 = .ok (.invokestatic 437, 3) := by decide +kernel
theorem dX12_synced_471 : decode cX12_synced 471 = .ok (.invokestatic 425, 3) := by decide +kernel
theorem dX12_synced_474 : decode cX12_synced 474 = .ok (.iastore, 1) := by decide +kernel
theorem dX12_synced_475 : decode cX12_synced 475 = .ok (.aload_n 0, 1) := by decide +kernel
theorem dX12_synced_476 : decode cX12_synced 476 = .ok (.iload 10, 2) := by decide +kernel
theorem dX12_synced_478 : decode cX12_synced 478 = .ok (.aload_n 0, 1) := by decide +kernel
theorem dX12_synced_479 : decode cX12_synced 479 = .ok (.getfield 113, 3) := by decide +kernel
theorem dX12_synced_482 : decode cX12_synced 482 = .ok (.iload 12, 2) := by decide +kernel
theorem dX12_synced_484 : decode cX12_synced 484 = .ok (.iaload, 1) := by decide +kernel
theorem dX12_synced_485 : decode cX12_synced 485 = .ok (.iload 4, 2) := by decide +kernel
theorem dX12_synced_487 : decode cX12_synced 487 = .ok (.invokevirtual 635, 3) := by decide +kernel
theorem dX12_synced_490 : decode cX12_synced 490 = .ok (.ifCond .ne 4, 3) := by decide +kernel
theorem dX12_synced_493 : decode cX12_synced 493 = .ok (.return_, 1) := by decide +kernel
theorem dX12_synced_494 : decode cX12_synced 494 = .ok (.goto (-79), 3) := by decide +kernel
theorem dX12_synced_497 : decode cX12_synced 497 = .ok (.aload_n 0, 1) := by decide +kernel
theorem dX12_synced_498 : decode cX12_synced 498 = .ok (.getfield 134, 3) := by decide +kernel
theorem dX12_synced_501 : decode cX12_synced 501 = .ok (.iload 10, 2) := by decide +kernel
theorem dX12_synced_503 : decode cX12_synced 503 = .ok (.aload_n 0, 1) := by decide +kernel
theorem dX12_synced_504 : decode cX12_synced 504 = .ok (.getfield 134, 3) := by decide +kernel
theorem dX12_synced_507 : decode cX12_synced 507 = .ok (.iload 10, 2) := by decide +kernel
theorem dX12_synced_509 : decode cX12_synced 509 = .ok (.iaload, 1) := by decide +kernel
theorem dX12_synced_510 : decode cX12_synced 510 = .ok (.iload 6, 2) := by decide +kernel
theorem dX12_synced_512 : decode cX12_synced 512 = .ok (.aload_n 0, 1) := by decide +kernel
theorem dX12_synced_513 : decode cX12_synced 513 = .ok (.getfield 131, 3) := by decide +kernel
theorem dX12_synced_516 : decode cX12_synced 516 = .ok (.iload 10, 2) := by decide +kernel
theorem dX12_synced_518 : decode cX12_synced 518 = .ok (.iaload, 1) := by decide +kernel
theorem dX12_synced_519 : decode cX12_synced 519 = .ok (.invokestatic 437, 3) := by decide +kernel
theorem dX12_synced_522 : decode cX12_synced 522 = .ok (.invokestatic 425, 3) := by decide +kernel
theorem dX12_synced_525 : decode cX12_synced 525 = .ok (.iastore, 1) := by decide +kernel
theorem dX12_synced_526 : decode cX12_synced 526 = .ok (.iload 9, 2) := by decide +kernel
theorem dX12_synced_528 : decode cX12_synced 528 = .ok (.aload_n 0, 1) := by decide +kernel
theorem dX12_synced_529 : decode cX12_synced 529 = .ok (.getfield 137, 3) := by decide +kernel
theorem dX12_synced_532 : decode cX12_synced 532 = .ok (.iload 10, 2) := by decide +kernel
theorem dX12_synced_534 : decode cX12_synced 534 = .ok (.iaload, 1) := by decide +kernel
theorem dX12_synced_535 : decode cX12_synced 535 = .ok (.if_icmp .le 15, 3) := by decide +kernel
theorem dX12_synced_538 : decode cX12_synced 538 = .ok (.aload_n 0, 1) := by decide +kernel
theorem dX12_synced_539 : decode cX12_synced 539 = .ok (.iload 10, 2) := by decide +kernel
theorem dX12_synced_541 : decode cX12_synced 541 = .ok (.iload 9, 2) := by decide +kernel
theorem dX12_synced_543 : decode cX12_synced 543 = .ok (.invokevirtual 654, 3) := by decide +kernel
theorem dX12_synced_546 : decode cX12_synced 546 = .ok (.ifCond .ne 4, 3) := by decide +kernel
theorem dX12_synced_549 : decode cX12_synced 549 = .ok (.return_, 1) := by decide +kernel
theorem dX12_synced_550 : decode cX12_synced 550 = .ok (.aload_n 0, 1) := by decide +kernel
theorem dX12_synced_551 : decode cX12_synced 551 = .ok (.iload 10, 2) := by decide +kernel
theorem dX12_synced_553 : decode cX12_synced 553 = .ok (.iload_n 2, 1) := by decide +kernel
theorem dX12_synced_554 : decode cX12_synced 554 = .ok (.invokevirtual 645, 3) := by decide +kernel
theorem dX12_synced_557 : decode cX12_synced 557 = .ok (.return_, 1) := by decide +kernel
theorem dX12_join_0 : decode cX12_join 0 = .ok (.aload_n 0, 1) := by decide +kernel
theorem dX12_join_1 : decode cX12_join 1 = .ok (.getfield 222, 3) := by decide +kernel
theorem dX12_join_4 : decode cX12_join 4 = .ok (.iconst 1, 1) := by decide +kernel
theorem dX12_join_5 : decode cX12_join 5 = .ok (.iaload, 1) := by decide +kernel
theorem dX12_join_6 : decode cX12_join 6 = .ok (.istore_n 3, 1) := by decide +kernel
theorem dX12_join_7 : decode cX12_join 7 = .ok (.aload_n 0, 1) := by decide +kernel
theorem dX12_join_8 : decode cX12_join 8 = .ok (.iload_n 1, 1) := by decide +kernel
theorem dX12_join_9 : decode cX12_join 9 = .ok (.iload_n 3, 1) := by decide +kernel
theorem dX12_join_10 : decode cX12_join 10 = .ok (.invokevirtual 629, 3) := by decide +kernel
theorem dX12_join_13 : decode cX12_join 13 = .ok (.ifCond .ne 4, 3) := by decide +kernel
theorem dX12_join_16 : decode cX12_join 16 = .ok (.return_, 1) := by decide +kernel
theorem dX12_join_17 : decode cX12_join 17 = .ok (.aload_n 0, 1) := by decide +kernel
theorem dX12_join_18 : decode cX12_join 18 = .ok (.iload_n 1, 1) := by decide +kernel
theorem dX12_join_19 : decode cX12_join 19 = .ok (.iload_n 3, 1) := by decide +kernel
theorem dX12_join_20 : decode cX12_join 20 = .ok (.invokevirtual 364, 3) := by decide +kernel
theorem dX12_join_23 : decode cX12_join 23 = .ok (.istore 4, 2) := by decide +kernel
theorem dX12_join_25 : decode cX12_join 25 = .ok (.iconst 5, 1) := by decide +kernel
theorem dX12_join_26 : decode cX12_join 26 = .ok (.iload 4, 2) := by decide +kernel
theorem dX12_join_28 : decode cX12_join 28 = .ok (.imul, 1) := by decide +kernel
theorem dX12_join_29 : decode cX12_join 29 = .ok (.iload_n 2, 1) := by decide +kernel
theorem dX12_join_30 : decode cX12_join 30 = .ok (.iadd, 1) := by decide +kernel
theorem dX12_join_31 : decode cX12_join 31 = .ok (.istore 5, 2) := by decide +kernel
theorem dX12_join_33 : decode cX12_join 33 = .ok (.aload_n 0, 1) := by decide +kernel
theorem dX12_join_34 : decode cX12_join 34 = .ok (.getfield 158, 3) := by decide +kernel
theorem dX12_join_37 : decode cX12_join 37 = .ok (.iload 5, 2) := by decide +kernel
theorem dX12_join_39 : decode cX12_join 39 = .ok (.iaload, 1) := by decide +kernel
theorem dX12_join_40 : decode cX12_join 40 = .ok (.iconst 4, 1) := by decide +kernel
theorem dX12_join_41 : decode cX12_join 41 = .ok (.if_icmp .ne 4, 3) := by decide +kernel
theorem dX12_join_44 : decode cX12_join 44 = .ok (.return_, 1) := by decide +kernel
theorem dX12_join_45 : decode cX12_join 45 = .ok (.aload_n 0, 1) := by decide +kernel
theorem dX12_join_46 : decode cX12_join 46 = .ok (.getfield 158, 3) := by decide +kernel
theorem dX12_join_49 : decode cX12_join 49 = .ok (.iload 5, 2) := by decide +kernel
theorem dX12_join_51 : decode cX12_join 51 = .ok (.iaload, 1) := by decide +kernel
theorem dX12_join_52 : decode cX12_join 52 = .ok (.ifCond .ne 30, 3) := by decide +kernel
theorem dX12_join_55 : decode cX12_join 55 = .ok (.aload_n 0, 1) := by decide +kernel
theorem dX12_join_56 : decode cX12_join 56 = .ok (.getfield 158, 3) := by decide +kernel
theorem dX12_join_59 : decode cX12_join 59 = .ok (.iload 5, 2) := by decide +kernel
theorem dX12_join_61 : decode cX12_join 61 = .ok (.iconst 1, 1) := by decide +kernel
theorem dX12_join_62 : decode cX12_join 62 = .ok (.iastore, 1) := by decide +kernel
theorem dX12_join_63 : decode cX12_join 63 = .ok (.aload_n 0, 1) := by decide +kernel
theorem dX12_join_64 : decode cX12_join 64 = .ok (.getfield 173, 3) := by decide +kernel
theorem dX12_join_67 : decode cX12_join 67 = .ok (.iload 5, 2) := by decide +kernel
theorem dX12_join_69 : decode cX12_join 69 = .ok (.dup2, 1) := by decide +kernel
theorem dX12_join_70 : decode cX12_join 70 = .ok (.iaload, 1) := by decide +kernel
theorem dX12_join_71 : decode cX12_join 71 = .ok (.iconst 1, 1) := by decide +kernel
theorem dX12_join_72 : decode cX12_join 72 = .ok (.iadd, 1) := by decide +kernel
theorem dX12_join_73 : decode cX12_join 73 = .ok (.iastore, 1) := by decide +kernel
theorem dX12_join_74 : decode cX12_join 74 = .ok (.aload_n 0, 1) := by decide +kernel
theorem dX12_join_75 : decode cX12_join 75 = .ok (.getfield 164, 3) := by decide +kernel
theorem dX12_join_78 : decode cX12_join 78 = .ok (.iload 5, 2) := by decide +kernel
theorem dX12_join_80 : decode cX12_join 80 = .ok (.iconst 0, 1) := by decide +kernel
theorem dX12_join_81 : decode cX12_join 81 = .ok (.iastore, 1) := by decide +kernel
theorem dX12_join_82 : decode cX12_join 82 = .ok (.aload_n 0, 1) := by decide +kernel
theorem dX12_join_83 : decode cX12_join 83 = .ok (.getfield 161, 3) := by decide +kernel
theorem dX12_join_86 : decode cX12_join 86 = .ok (.iload 5, 2) := by decide +kernel
theorem dX12_join_88 : decode cX12_join 88 = .ok (.iconst (-1), 1) := by decide +kernel
theorem dX12_join_89 : decode cX12_join 89 = .ok (.iastore, 1) := by decide +kernel
theorem dX12_join_90 : decode cX12_join 90 = .ok (.aload_n 0, 1) := by decide +kernel
theorem dX12_join_91 : decode cX12_join 91 = .ok (.getfield 167, 3) := by decide +kernel
theorem dX12_join_94 : decode cX12_join 94 = .ok (.iload 5, 2) := by decide +kernel
theorem dX12_join_96 : decode cX12_join 96 = .ok (.aload_n 0, 1) := by decide +kernel
theorem dX12_join_97 : decode cX12_join 97 = .ok (.getfield 330, 3) := by decide +kernel
theorem dX12_join_100 : decode cX12_join 100 = .ok (.iastore, 1) := by decide +kernel
theorem dX12_join_101 : decode cX12_join 101 = .ok (.aload_n 0, 1) := by decide +kernel
theorem dX12_join_102 : decode cX12_join 102 = .ok (.iload 4, 2) := by decide +kernel
theorem dX12_join_104 : decode cX12_join 104 = .ok (.iload_n 2, 1) := by decide +kernel
theorem dX12_join_105 : decode cX12_join 105 = .ok (.invokevirtual 453, 3) := by decide +kernel
theorem dX12_join_108 : decode cX12_join 108 = .ok (.return_, 1) := by decide +kernel
theorem dX12_out_0 : decode cX12_out 0 = .ok (.aload_n 0, 1) := by decide +kernel
theorem dX12_out_1 : decode cX12_out 1 = .ok (.getfield 222, 3) := by decide +kernel
theorem dX12_out_4 : decode cX12_out 4 = .ok (.iconst 1, 1) := by decide +kernel
theorem dX12_out_5 : decode cX12_out 5 = .ok (.iaload, 1) := by decide +kernel
theorem dX12_out_6 : decode cX12_out 6 = .ok (.istore_n 2, 1) := by decide +kernel
theorem dX12_out_7 : decode cX12_out 7 = .ok (.aload_n 0, 1) := by decide +kernel
theorem dX12_out_8 : decode cX12_out 8 = .ok (.iload_n 1, 1) := by decide +kernel
theorem dX12_out_9 : decode cX12_out 9 = .ok (.iload_n 2, 1) := by decide +kernel
theorem dX12_out_10 : decode cX12_out 10 = .ok (.invokevirtual 629, 3) := by decide +kernel
theorem dX12_out_13 : decode cX12_out 13 = .ok (.ifCond .eq 23, 3) := by decide +kernel
theorem dX12_out_16 : decode cX12_out 16 = .ok (.aload_n 0, 1) := by decide +kernel
theorem dX12_out_17 : decode cX12_out 17 = .ok (.getfield 222, 3) := by decide +kernel
theorem dX12_out_20 : decode cX12_out 20 = .ok (.iconst 2, 1) := by decide +kernel
theorem dX12_out_21 : decode cX12_out 21 = .ok (.iaload, 1) := by decide +kernel
theorem dX12_out_22 : decode cX12_out 22 = .ok (.aload_n 0, 1) := by decide +kernel
theorem dX12_out_23 : decode cX12_out 23 = .ok (.getfield 125, 3) := by decide +kernel
theorem dX12_out_26 : decode cX12_out 26 = .ok (.aload_n 0, 1) := by decide +kernel
theorem dX12_out_27 : decode cX12_out 27 = .ok (.iload_n 1, 1) := by decide +kernel
theorem dX12_out_28 : decode cX12_out 28 = .ok (.iload_n 2, 1) := by decide +kernel
theorem dX12_out_29 : decode cX12_out 29 = .ok (.invokevirtual 364, 3) := by decide +kernel
theorem dX12_out_32 : decode cX12_out 32 = .ok (.iaload, 1) := by decide +kernel
theorem dX12_out_33 : decode cX12_out 33 = .ok (.if_icmp .eq 4, 3) := by decide +kernel
theorem dX12_out_36 : decode cX12_out 36 = .ok (.return_, 1) := by decide +kernel
theorem dX12_out_37 : decode cX12_out 37 = .ok (.aload_n 0, 1) := by decide +kernel
theorem dX12_out_38 : decode cX12_out 38 = .ok (.iload_n 1, 1) := by decide +kernel
theorem dX12_out_39 : decode cX12_out 39 = .ok (.iload_n 2, 1) := by decide +kernel
theorem dX12_out_40 : decode cX12_out 40 = .ok (.invokevirtual 364, 3) := by decide +kernel
theorem dX12_out_43 : decode cX12_out 43 = .ok (.istore_n 3, 1) := by decide +kernel
theorem dX12_out_44 : decode cX12_out 44 = .ok (.iconst 5, 1) := by decide +kernel
theorem dX12_out_45 : decode cX12_out 45 = .ok (.iload_n 3, 1) := by decide +kernel
theorem dX12_out_46 : decode cX12_out 46 = .ok (.imul, 1) := by decide +kernel
theorem dX12_out_47 : decode cX12_out 47 = .ok (.aload_n 0, 1) := by decide +kernel
theorem dX12_out_48 : decode cX12_out 48 = .ok (.getfield 222, 3) := by decide +kernel
theorem dX12_out_51 : decode cX12_out 51 = .ok (.iconst 3, 1) := by decide +kernel
theorem dX12_out_52 : decode cX12_out 52 = .ok (.iaload, 1) := by decide +kernel
theorem dX12_out_53 : decode cX12_out 53 = .ok (.iadd, 1) := by decide +kernel
theorem dX12_out_54 : decode cX12_out 54 = .ok (.istore 4, 2) := by decide +kernel
theorem dX12_out_56 : decode cX12_out 56 = .ok (.aload_n 0, 1) := by decide +kernel
theorem dX12_out_57 : decode cX12_out 57 = .ok (.getfield 158, 3) := by decide +kernel
theorem dX12_out_60 : decode cX12_out 60 = .ok (.iload 4, 2) := by decide +kernel
theorem dX12_out_62 : decode cX12_out 62 = .ok (.iaload, 1) := by decide +kernel
theorem dX12_out_63 : decode cX12_out 63 = .ok (.iconst 4, 1) := by decide +kernel
theorem dX12_out_64 : decode cX12_out 64 = .ok (.if_icmp .ne 32, 3) := by decide +kernel
theorem dX12_out_67 : decode cX12_out 67 = .ok (.aload_n 0, 1) := by decide +kernel
theorem dX12_out_68 : decode cX12_out 68 = .ok (.getfield 173, 3) := by decide +kernel
theorem dX12_out_71 : decode cX12_out 71 = .ok (.iload 4, 2) := by decide +kernel
theorem dX12_out_73 : decode cX12_out 73 = .ok (.iaload, 1) := by decide +kernel
theorem dX12_out_74 : decode cX12_out 74 = .ok (.aload_n 0, 1) := by decide +kernel
theorem dX12_out_75 : decode cX12_out 75 = .ok (.getfield 222, 3) := by decide +kernel
theorem dX12_out_78 : decode cX12_out 78 = .ok (.iconst 4, 1) := by decide +kernel
theorem dX12_out_79 : decode cX12_out 79 = .ok (.iaload, 1) := by decide +kernel
theorem dX12_out_80 : decode cX12_out 80 = .ok (.if_icmp .ne 16, 3) := by decide +kernel
theorem dX12_out_83 : decode cX12_out 83 = .ok (.aload_n 0, 1) := by decide +kernel
theorem dX12_out_84 : decode cX12_out 84 = .ok (.getfield 158, 3) := by decide +kernel
theorem dX12_out_87 : decode cX12_out 87 = .ok (.iload 4, 2) := by decide +kernel
theorem dX12_out_89 : decode cX12_out 89 = .ok (.iconst 0, 1) := by decide +kernel
theorem dX12_out_90 : decode cX12_out 90 = .ok (.iastore, 1) := by decide +kernel
theorem dX12_out_91 : decode cX12_out 91 = .ok (.aload_n 0, 1) := by decide +kernel
theorem dX12_out_92 : decode cX12_out 92 = .ok (.iload_n 3, 1) := by decide +kernel
theorem dX12_out_93 : decode cX12_out 93 = .ok (.invokevirtual 456, 3) := by decide +kernel
theorem dX12_out_96 : decode cX12_out 96 = .ok (.return_, 1) := by decide +kernel
theorem dX12_config_0 : decode cX12_config 0 = .ok (.aload_n 0, 1) := by decide +kernel
theorem dX12_config_1 : decode cX12_config 1 = .ok (.getfield 222, 3) := by decide +kernel
theorem dX12_config_4 : decode cX12_config 4 = .ok (.iconst 1, 1) := by decide +kernel
theorem dX12_config_5 : decode cX12_config 5 = .ok (.iaload, 1) := by decide +kernel
theorem dX12_config_6 : decode cX12_config 6 = .ok (.istore_n 2, 1) := by decide +kernel
theorem dX12_config_7 : decode cX12_config 7 = .ok (.aload_n 0, 1) := by decide +kernel
theorem dX12_config_8 : decode cX12_config 8 = .ok (.iload_n 1, 1) := by decide +kernel
theorem dX12_config_9 : decode cX12_config 9 = .ok (.iload_n 2, 1) := by decide +kernel
theorem dX12_config_10 : decode cX12_config 10 = .ok (.invokevirtual 364, 3) := by decide +kernel
theorem dX12_config_13 : decode cX12_config 13 = .ok (.istore_n 3, 1) := by decide +kernel
theorem dX12_config_14 : decode cX12_config 14 = .ok (.aload_n 0, 1) := by decide +kernel
theorem dX12_config_15 : decode cX12_config 15 = .ok (.iload_n 1, 1) := by decide +kernel
theorem dX12_config_16 : decode cX12_config 16 = .ok (.iload_n 2, 1) := by decide +kernel
theorem dX12_config_17 : decode cX12_config 17 = .ok (.invokevirtual 352, 3) := by decide +kernel
theorem dX12_config_20 : decode cX12_config 20 = .ok (.ifCond .eq 18, 3) := by decide +kernel
theorem dX12_config_23 : decode cX12_config 23 = .ok (.aload_n 0, 1) := by decide +kernel
theorem dX12_config_24 : decode cX12_config 24 = .ok (.getfield 222, 3) := by decide +kernel
theorem dX12_config_27 : decode cX12_config 27 = .ok (.iconst 5, 1) := by decide +kernel
theorem dX12_config_28 : decode cX12_config 28 = .ok (.iaload, 1) := by decide +kernel
theorem dX12_config_29 : decode cX12_config 29 = .ok (.aload_n 0, 1) := by decide +kernel
theorem dX12_config_30 : decode cX12_config 30 = .ok (.getfield 185, 3) := by decide +kernel
theorem dX12_config_33 : decode cX12_config 33 = .ok (.iload_n 3, 1) := by decide +kernel
theorem dX12_config_34 : decode cX12_config 34 = .ok (.iaload, 1) := by decide +kernel
theorem dX12_config_35 : decode cX12_config 35 = .ok (.if_icmp .gt 4, 3) := by decide +kernel
theorem dX12_config_38 : decode cX12_config 38 = .ok (.return_, 1) := by decide +kernel
theorem dX12_config_39 : decode cX12_config 39 = .ok (.aload_n 0, 1) := by decide +kernel
theorem dX12_config_40 : decode cX12_config 40 = .ok (.iload_n 3, 1) := by decide +kernel
theorem dX12_config_41 : decode cX12_config 41 = .ok (.aload_n 0, 1) := by decide +kernel
theorem dX12_config_42 : decode cX12_config 42 = .ok (.getfield 222, 3) := by decide +kernel
theorem dX12_config_45 : decode cX12_config 45 = .ok (.iconst 2, 1) := by decide +kernel
theorem dX12_config_46 : decode cX12_config 46 = .ok (.iaload, 1) := by decide +kernel
theorem dX12_config_47 : decode cX12_config 47 = .ok (.aload_n 0, 1) := by decide +kernel
theorem dX12_config_48 : decode cX12_config 48 = .ok (.getfield 222, 3) := by decide +kernel
theorem dX12_config_51 : decode cX12_config 51 = .ok (.iconst 3, 1) := by decide +kernel
theorem dX12_config_52 : decode cX12_config 52 = .ok (.iaload, 1) := by decide +kernel
theorem dX12_config_53 : decode cX12_config 53 = .ok (.aload_n 0, 1) := by decide +kernel
theorem dX12_config_54 : decode cX12_config 54 = .ok (.getfield 222, 3) := by decide +kernel
theorem dX12_config_57 : decode cX12_config 57 = .ok (.iconst 4, 1) := by decide +kernel
theorem dX12_config_58 : decode cX12_config 58 = .ok (.iaload, 1) := by decide +kernel
theorem dX12_config_59 : decode cX12_config 59 = .ok (.aload_n 0, 1) := by decide +kernel
theorem dX12_config_60 : decode cX12_config 60 = .ok (.getfield 222, 3) := by decide +kernel
theorem dX12_config_63 : decode cX12_config 63 = .ok (.iconst 5, 1) := by decide +kernel
theorem dX12_config_64 : decode cX12_config 64 = .ok (.iaload, 1) := by decide +kernel
theorem dX12_config_65 : decode cX12_config 65 = .ok (.invokevirtual 348, 3) := by decide +kernel
theorem dX12_config_68 : decode cX12_config 68 = .ok (.aload_n 0, 1) := by decide +kernel
theorem dX12_config_69 : decode cX12_config 69 = .ok (.getfield 222, 3) := by decide +kernel
theorem dX12_config_72 : decode cX12_config 72 = .ok (.iconst 3, 1) := by decide +kernel
theorem dX12_config_73 : decode cX12_config 73 = .ok (.iaload, 1) := by decide +kernel
theorem dX12_config_74 : decode cX12_config 74 = .ok (.iload_n 1, 1) := by decide +kernel
theorem dX12_config_75 : decode cX12_config 75 = .ok (.if_icmp .eq 12, 3) := by decide +kernel
theorem dX12_config_78 : decode cX12_config 78 = .ok (.aload_n 0, 1) := by decide +kernel
theorem dX12_config_79 : decode cX12_config 79 = .ok (.iload_n 3, 1) := by decide +kernel
theorem dX12_config_80 : decode cX12_config 80 = .ok (.iload_n 1, 1) := by decide +kernel
theorem dX12_config_81 : decode cX12_config 81 = .ok (.invokevirtual 657, 3) := by decide +kernel
theorem dX12_config_84 : decode cX12_config 84 = .ok (.goto 74, 3) := by decide +kernel
theorem dX12_config_87 : decode cX12_config 87 = .ok (.aload_n 0, 1) := by decide +kernel
theorem dX12_config_88 : decode cX12_config 88 = .ok (.getfield 140, 3) := by decide +kernel
theorem dX12_config_91 : decode cX12_config 91 = .ok (.iload_n 3, 1) := by decide +kernel
theorem dX12_config_92 : decode cX12_config 92 = .ok (.iaload, 1) := by decide +kernel
theorem dX12_config_93 : decode cX12_config 93 = .ok (.iconst 2, 1) := by decide +kernel
theorem dX12_config_94 : decode cX12_config 94 = .ok (.if_icmp .ne 26, 3) := by decide +kernel
theorem dX12_config_97 : decode cX12_config 97 = .ok (.aload_n 0, 1) := by decide +kernel
theorem dX12_config_98 : decode cX12_config 98 = .ok (.getfield 222, 3) := by decide +kernel
theorem dX12_config_101 : decode cX12_config 101 = .ok (.iconst 2, 1) := by decide +kernel
theorem dX12_config_102 : decode cX12_config 102 = .ok (.iaload, 1) := by decide +kernel
theorem dX12_config_103 : decode cX12_config 103 = .ok (.aload_n 0, 1) := by decide +kernel
theorem dX12_config_104 : decode cX12_config 104 = .ok (.getfield 125, 3) := by decide +kernel
theorem dX12_config_107 : decode cX12_config 107 = .ok (.iload_n 3, 1) := by decide +kernel
theorem dX12_config_108 : decode cX12_config 108 = .ok (.iaload, 1) := by decide +kernel
theorem dX12_config_109 : decode cX12_config 109 = .ok (.if_icmp .ne 11, 3) := by decide +kernel
theorem dX12_config_112 : decode cX12_config 112 = .ok (.aload_n 0, 1) := by decide +kernel
theorem dX12_config_113 : decode cX12_config 113 = .ok (.iload_n 3, 1) := by decide +kernel
theorem dX12_config_114 : decode cX12_config 114 = .ok (.invokevirtual 660, 3) := by decide +kernel
theorem dX12_config_117 : decode cX12_config 117 = .ok (.goto 41, 3) := by decide +kernel
theorem dX12_config_120 : decode cX12_config 120 = .ok (.aload_n 0, 1) := by decide +kernel
theorem dX12_config_121 : decode cX12_config 121 = .ok (.getfield 222, 3) := by decide +kernel
theorem dX12_config_124 : decode cX12_config 124 = .ok (.iconst 2, 1) := by decide +kernel
theorem dX12_config_125 : decode cX12_config 125 = .ok (.iaload, 1) := by decide +kernel
theorem dX12_config_126 : decode cX12_config 126 = .ok (.aload_n 0, 1) := by decide +kernel
theorem dX12_config_127 : decode cX12_config 127 = .ok (.getfield 125, 3) := by decide +kernel
theorem dX12_config_130 : decode cX12_config 130 = .ok (.iload_n 3, 1) := by decide +kernel
theorem dX12_config_131 : decode cX12_config 131 = .ok (.iaload, 1) := by decide +kernel
theorem dX12_config_132 : decode cX12_config 132 = .ok (.if_icmp .le 19, 3) := by decide +kernel
theorem dX12_config_135 : decode cX12_config 135 = .ok (.aload_n 0, 1) := by decide +kernel
theorem dX12_config_136 : decode cX12_config 136 = .ok (.iload_n 3, 1) := by decide +kernel
theorem dX12_config_137 : decode cX12_config 137 = .ok (.aload_n 0, 1) := by decide +kernel
theorem dX12_config_138 : decode cX12_config 138 = .ok (.getfield 222, 3) := by decide +kernel
theorem dX12_config_141 : decode cX12_config 141 = .ok (.iconst 2, 1) := by decide +kernel
theorem dX12_config_142 : decode cX12_config 142 = .ok (.iaload, 1) := by decide +kernel
theorem dX12_config_143 : decode cX12_config 143 = .ok (.invokevirtual 663, 3) := by decide +kernel
theorem dX12_config_146 : decode cX12_config 146 = .ok (.istore 4, 2) := by decide +kernel
theorem dX12_config_148 : decode cX12_config 148 = .ok (.goto 10, 3) := by decide +kernel
theorem dX12_config_151 : decode cX12_config 151 = .ok (.aload_n 0, 1) := by decide +kernel
theorem dX12_config_152 : decode cX12_config 152 = .ok (.getfield 140, 3) := by decide +kernel
theorem dX12_config_155 : decode cX12_config 155 = .ok (.iload_n 3, 1) := by decide +kernel
theorem dX12_config_156 : decode cX12_config 156 = .ok (.iconst 1, 1) := by decide +kernel
theorem dX12_config_157 : decode cX12_config 157 = .ok (.iastore, 1) := by decide +kernel
theorem dX12_config_158 : decode cX12_config 158 = .ok (.return_, 1) := by decide +kernel
theorem dX12_members_0 : decode cX12_members 0 = .ok (.aload_n 0, 1) := by decide +kernel
theorem dX12_members_1 : decode cX12_members 1 = .ok (.getfield 182, 3) := by decide +kernel
theorem dX12_members_4 : decode cX12_members 4 = .ok (.iload_n 1, 1) := by decide +kernel
theorem dX12_members_5 : decode cX12_members 5 = .ok (.iaload, 1) := by decide +kernel
theorem dX12_members_6 : decode cX12_members 6 = .ok (.istore_n 2, 1) := by decide +kernel
theorem dX12_members_7 : decode cX12_members 7 = .ok (.iconst 0, 1) := by decide +kernel
theorem dX12_members_8 : decode cX12_members 8 = .ok (.istore_n 3, 1) := by decide +kernel
theorem dX12_members_9 : decode cX12_members 9 = .ok (.iload_n 3, 1) := by decide +kernel
theorem dX12_members_10 : decode cX12_members 10 = .ok (.aload_n 0, 1) := by decide +kernel
theorem dX12_members_11 : decode cX12_members 11 = .ok (.getfield 321, 3) := by decide +kernel
theorem dX12_members_14 : decode cX12_members 14 = .ok (.if_icmp .ge 151, 3) := by decide +kernel
theorem dX12_members_17 : decode cX12_members 17 = .ok (.iconst 5, 1) := by decide +kernel
theorem dX12_members_18 : decode cX12_members 18 = .ok (.iload_n 1, 1) := by decide +kernel
theorem dX12_members_19 : decode cX12_members 19 = .ok (.imul, 1) := by decide +kernel
theorem dX12_members_20 : decode cX12_members 20 = .ok (.iload_n 3, 1) := by decide +kernel
theorem dX12_members_21 : decode cX12_members 21 = .ok (.iadd, 1) := by decide +kernel
theorem dX12_members_22 : decode cX12_members 22 = .ok (.istore 4, 2) := by decide +kernel
theorem dX12_members_24 : decode cX12_members 24 = .ok (.aload_n 0, 1) := by decide +kernel
theorem dX12_members_25 : decode cX12_members 25 = .ok (.iload_n 1, 1) := by decide +kernel
theorem dX12_members_26 : decode cX12_members 26 = .ok (.iload_n 3, 1) := by decide +kernel
theorem dX12_members_27 : decode cX12_members 27 = .ok (.invokevirtual 431, 3) := by decide +kernel
theorem dX12_members_30 : decode cX12_members 30 = .ok (.ifCond .eq 129, 3) := by decide +kernel
theorem dX12_members_33 : decode cX12_members 33 = .ok (.iload_n 2, 1) := by decide +kernel
theorem dX12_members_34 : decode cX12_members 34 = .ok (.iload_n 3, 1) := by decide +kernel
theorem dX12_members_35 : decode cX12_members 35 = .ok (.ishr, 1) := by decide +kernel
theorem dX12_members_36 : decode cX12_members 36 = .ok (.iconst 1, 1) := by decide +kernel
theorem dX12_members_37 : decode cX12_members 37 = .ok (.iand, 1) := by decide +kernel
theorem dX12_members_38 : decode cX12_members 38 = .ok (.iconst 1, 1) := by decide +kernel
theorem dX12_members_39 : decode cX12_members 39 = .ok (.if_icmp .ne 7, 3) := by decide +kernel
theorem dX12_members_42 : decode cX12_members 42 = .ok (.iconst 1, 1) := by decide +kernel
theorem dX12_members_43 : decode cX12_members 43 = .ok (.goto 4, 3) := by decide +kernel
theorem dX12_members_46 : decode cX12_members 46 = .ok (.iconst 0, 1) := by decide +kernel
theorem dX12_members_47 : decode cX12_members 47 = .ok (.istore 5, 2) := by decide +kernel
theorem dX12_members_49 : decode cX12_members 49 = .ok (.iload 5, 2) := by decide +kernel
theorem dX12_members_51 : decode cX12_members 51 = .ok (.ifCond .eq 57, 3) := by decide +kernel
theorem dX12_members_54 : decode cX12_members 54 = .ok (.aload_n 0, 1) := by decide +kernel
theorem dX12_members_55 : decode cX12_members 55 = .ok (.getfield 158, 3) := by decide +kernel
theorem dX12_members_58 : decode cX12_members 58 = .ok (.iload 4, 2) := by decide +kernel
theorem dX12_members_60 : decode cX12_members 60 = .ok (.iaload, 1) := by decide +kernel
theorem dX12_members_61 : decode cX12_members 61 = .ok (.ifCond .ne 47, 3) := by decide +kernel
theorem dX12_members_64 : decode cX12_members 64 = .ok (.aload_n 0, 1) := by decide +kernel
theorem dX12_members_65 : decode cX12_members 65 = .ok (.getfield 158, 3) := by decide +kernel
theorem dX12_members_68 : decode cX12_members 68 = .ok (.iload 4, 2) := by decide +kernel
theorem dX12_members_70 : decode cX12_members 70 = .ok (.iconst 3, 1) := by decide +kernel
theorem dX12_members_71 : decode cX12_members 71 = .ok (.iastore, 1) := by decide +kernel
theorem dX12_members_72 : decode cX12_members 72 = .ok (.aload_n 0, 1) := by decide +kernel
theorem dX12_members_73 : decode cX12_members 73 = .ok (.getfield 161, 3) := by decide +kernel
theorem dX12_members_76 : decode cX12_members 76 = .ok (.iload 4, 2) := by decide +kernel
theorem dX12_members_78 : decode cX12_members 78 = .ok (.iconst (-1), 1) := by decide +kernel
theorem dX12_members_79 : decode cX12_members 79 = .ok (.iastore, 1) := by decide +kernel
theorem dX12_members_80 : decode cX12_members 80 = .ok (.aload_n 0, 1) := by decide +kernel
theorem dX12_members_81 : decode cX12_members 81 = .ok (.getfield 164, 3) := by decide +kernel
theorem dX12_members_84 : decode cX12_members 84 = .ok (.iload 4, 2) := by decide +kernel
theorem dX12_members_86 : decode cX12_members 86 = .ok (.iconst 0, 1) := by decide +kernel
theorem dX12_members_87 : decode cX12_members 87 = .ok (.iastore, 1) := by decide +kernel
theorem dX12_members_88 : decode cX12_members 88 = .ok (.aload_n 0, 1) := by decide +kernel
theorem dX12_members_89 : decode cX12_members 89 = .ok (.getfield 167, 3) := by decide +kernel
theorem dX12_members_92 : decode cX12_members 92 = .ok (.iload 4, 2) := by decide +kernel
theorem dX12_members_94 : decode cX12_members 94 = .ok (.aload_n 0, 1) := by decide +kernel
theorem dX12_members_95 : decode cX12_members 95 = .ok (.getfield 330, 3) := by decide +kernel
theorem dX12_members_98 : decode cX12_members 98 = .ok (.iastore, 1) := by decide +kernel
theorem dX12_members_99 : decode cX12_members 99 = .ok (.aload_n 0, 1) := by decide +kernel
theorem dX12_members_100 : decode cX12_members 100 = .ok (.iload_n 1, 1) := by decide +kernel
theorem dX12_members_101 : decode cX12_members 101 = .ok (.iload_n 3, 1) := by decide +kernel
theorem dX12_members_102 : decode cX12_members 102 = .ok (.invokevirtual 453, 3) := by decide +kernel
theorem dX12_members_105 : decode cX12_members 105 = .ok (.goto 54, 3) := by decide +kernel
theorem dX12_members_108 : decode cX12_members 108 = .ok (.iload 5, 2) := by decide +kernel
theorem dX12_members_110 : decode cX12_members 110 = .ok (.ifCond .eq 25, 3) := by decide +kernel
theorem dX12_members_113 : decode cX12_members 113 = .ok (.aload_n 0, 1) := by decide +kernel
theorem dX12_members_114 : decode cX12_members 114 = .ok (.getfield 158, 3) := by decide +kernel
theorem dX12_members_117 : decode cX12_members 117 = .ok (.iload 4, 2) := by decide +kernel
theorem dX12_members_119 : decode cX12_members 119 = .ok (.iaload, 1) := by decide +kernel
theorem dX12_members_120 : decode cX12_members 120 = .ok (.iconst 2, 1) := by decide +kernel
theorem dX12_members_121 : decode cX12_members 121 = .ok (.if_icmp .gt 14, 3) := by decide +kernel
theorem dX12_members_124 : decode cX12_members 124 = .ok (.aload_n 0, 1) := by decide +kernel
theorem dX12_members_125 : decode cX12_members 125 = .ok (.getfield 158, 3) := by decide +kernel
theorem dX12_members_128 : decode cX12_members 128 = .ok (.iload 4, 2) := by decide +kernel
theorem dX12_members_130 : decode cX12_members 130 = .ok (.iconst 3, 1) := by decide +kernel
theorem dX12_members_131 : decode cX12_members 131 = .ok (.iastore, 1) := by decide +kernel
theorem dX12_members_132 : decode cX12_members 132 = .ok (.goto 27, 3) := by decide +kernel
theorem dX12_members_135 : decode cX12_members 135 = .ok (.iload 5, 2) := by decide +kernel
theorem dX12_members_137 : decode cX12_members 137 = .ok (.ifCond .ne 22, 3) := by decide +kernel
theorem dX12_members_140 : decode cX12_members 140 = .ok (.aload_n 0, 1) := by decide +kernel
theorem dX12_members_141 : decode cX12_members 141 = .ok (.getfield 158, 3) := by decide +kernel
theorem dX12_members_144 : decode cX12_members 144 = .ok (.iload 4, 2) := by decide +kernel
theorem dX12_members_146 : decode cX12_members 146 = .ok (.iaload, 1) := by decide +kernel
theorem dX12_members_147 : decode cX12_members 147 = .ok (.iconst 3, 1) := by decide +kernel
theorem dX12_members_148 : decode cX12_members 148 = .ok (.if_icmp .ne 11, 3) := by decide +kernel
theorem dX12_members_151 : decode cX12_members 151 = .ok (.aload_n 0, 1) := by decide +kernel
theorem dX12_members_152 : decode cX12_members 152 = .ok (.getfield 158, 3) := by decide +kernel
theorem dX12_members_155 : decode cX12_members 155 = .ok (.iload 4, 2) := by decide +kernel
theorem dX12_members_157 : decode cX12_members 157 = .ok (.iconst 0, 1) := by decide +kernel
theorem dX12_members_158 : decode cX12_members 158 = .ok (.iastore, 1) := by decide +kernel
theorem dX12_members_159 : decode cX12_members 159 = .ok (.iinc 3 1, 3) := by decide +kernel
theorem dX12_members_162 : decode cX12_members 162 = .ok (.goto (-153), 3) := by decide +kernel
theorem dX12_members_165 : decode cX12_members 165 = .ok (.aload_n 0, 1) := by decide +kernel
theorem dX12_members_166 : decode cX12_members 166 = .ok (.iload_n 1, 1) := by decide +kernel
theorem dX12_members_167 : decode cX12_members 167 = .ok (.invokevirtual 456, 3) := by decide +kernel
theorem dX12_members_170 : decode cX12_members 170 = .ok (.return_, 1) := by decide +kernel
theorem dX12_sendJoin_0 : decode cX12_sendJoin 0 = .ok (.aload_n 0, 1) := by decide +kernel
theorem dX12_sendJoin_1 : decode cX12_sendJoin 1 = .ok (.iload_n 1, 1) := by decide +kernel
theorem dX12_sendJoin_2 : decode cX12_sendJoin 2 = .ok (.iconst 4, 1) := by decide +kernel
theorem dX12_sendJoin_3 : decode cX12_sendJoin 3 = .ok (.idiv, 1) := by decide +kernel
theorem dX12_sendJoin_4 : decode cX12_sendJoin 4 = .ok (.aload_n 0, 1) := by decide +kernel
theorem dX12_sendJoin_5 : decode cX12_sendJoin 5 = .ok (.getfield 179, 3) := by decide +kernel
theorem dX12_sendJoin_8 : decode cX12_sendJoin 8 = .ok (.iload_n 1, 1) := by decide +kernel
theorem dX12_sendJoin_9 : decode cX12_sendJoin 9 = .ok (.iaload, 1) := by decide +kernel
theorem dX12_sendJoin_10 : decode cX12_sendJoin 10 = .ok (.bipush 10, 2) := by decide +kernel
theorem dX12_sendJoin_12 : decode cX12_sendJoin 12 = .ok (.iload_n 1, 1) := by decide +kernel
theorem dX12_sendJoin_13 : decode cX12_sendJoin 13 = .ok (.iconst 4, 1) := by decide +kernel
theorem dX12_sendJoin_14 : decode cX12_sendJoin 14 = .ok (.irem, 1) := by decide +kernel
theorem dX12_sendJoin_15 : decode cX12_sendJoin 15 = .ok (.aload_n 0, 1) := by decide +kernel
theorem dX12_sendJoin_16 : decode cX12_sendJoin 16 = .ok (.getfield 131, 3) := by decide +kernel
theorem dX12_sendJoin_19 : decode cX12_sendJoin 19 = .ok (.iload_n 1, 1) := by decide +kernel
theorem dX12_sendJoin_20 : decode cX12_sendJoin 20 = .ok (.iaload, 1) := by decide +kernel
theorem dX12_sendJoin_21 : decode cX12_sendJoin 21 = .ok (.invokevirtual 589, 3) := by decide +kernel
theorem dX12_sendJoin_24 : decode cX12_sendJoin 24 = .ok (.aload_n 0, 1) := by decide +kernel
theorem dX12_sendJoin_25 : decode cX12_sendJoin 25 = .ok (.getfield 143, 3) := by decide +kernel
theorem dX12_sendJoin_28 : decode cX12_sendJoin 28 = .ok (.iload_n 1, 1) := by decide +kernel
theorem dX12_sendJoin_29 : decode cX12_sendJoin 29 = .ok (.aload_n 0, 1) := by decide +kernel
theorem dX12_sendJoin_30 : decode cX12_sendJoin 30 = .ok (.getfield 330, 3) := by decide +kernel
theorem dX12_sendJoin_33 : decode cX12_sendJoin 33 = .ok (.iastore, 1) := by decide +kernel
theorem dX12_sendJoin_34 : decode cX12_sendJoin 34 = .ok (.return_, 1) := by decide +kernel
theorem dX12_follow_0 : decode cX12_follow 0 = .ok (.aload_n 0, 1) := by decide +kernel
theorem dX12_follow_1 : decode cX12_follow 1 = .ok (.getfield 149, 3) := by decide +kernel
theorem dX12_follow_4 : decode cX12_follow 4 = .ok (.iload_n 1, 1) := by decide +kernel
theorem dX12_follow_5 : decode cX12_follow 5 = .ok (.iconst 0, 1) := by decide +kernel
theorem dX12_follow_6 : decode cX12_follow 6 = .ok (.iastore, 1) := by decide +kernel
theorem dX12_follow_7 : decode cX12_follow 7 = .ok (.aload_n 0, 1) := by decide +kernel
theorem dX12_follow_8 : decode cX12_follow 8 = .ok (.getfield 182, 3) := by decide +kernel
theorem dX12_follow_11 : decode cX12_follow 11 = .ok (.iload_n 1, 1) := by decide +kernel
theorem dX12_follow_12 : decode cX12_follow 12 = .ok (.iaload, 1) := by decide +kernel
theorem dX12_follow_13 : decode cX12_follow 13 = .ok (.iload_n 2, 1) := by decide +kernel
theorem dX12_follow_14 : decode cX12_follow 14 = .ok (.ishr, 1) := by decide +kernel
theorem dX12_follow_15 : decode cX12_follow 15 = .ok (.iconst 1, 1) := by decide +kernel
theorem dX12_follow_16 : decode cX12_follow 16 = .ok (.iand, 1) := by decide +kernel
theorem dX12_follow_17 : decode cX12_follow 17 = .ok (.iconst 1, 1) := by decide +kernel
theorem dX12_follow_18 : decode cX12_follow 18 = .ok (.if_icmp .ne 11, 3) := by decide +kernel
theorem dX12_follow_21 : decode cX12_follow 21 = .ok (.aload_n 0, 1) := by decide +kernel
theorem dX12_follow_22 : decode cX12_follow 22 = .ok (.getfield 140, 3) := by decide +kernel
theorem dX12_follow_25 : decode cX12_follow 25 = .ok (.iload_n 1, 1) := by decide +kernel
theorem dX12_follow_26 : decode cX12_follow 26 = .ok (.iconst 1, 1) := by decide +kernel
theorem dX12_follow_27 : decode cX12_follow 27 = .ok (.iastore, 1) := by decide +kernel
theorem dX12_follow_28 : decode cX12_follow 28 = .ok (.return_, 1) := by decide +kernel
theorem dX12_follow_29 : decode cX12_follow 29 = .ok (.aload_n 0, 1) := by decide +kernel
theorem dX12_follow_30 : decode cX12_follow 30 = .ok (.getfield 140, 3) := by decide +kernel
theorem dX12_follow_33 : decode cX12_follow 33 = .ok (.iload_n 1, 1) := by decide +kernel
theorem dX12_follow_34 : decode cX12_follow 34 = .ok (.iconst 0, 1) := by decide +kernel
theorem dX12_follow_35 : decode cX12_follow 35 = .ok (.iastore, 1) := by decide +kernel
theorem dX12_follow_36 : decode cX12_follow 36 = .ok (.aload_n 0, 1) := by decide +kernel
theorem dX12_follow_37 : decode cX12_follow 37 = .ok (.iload_n 1, 1) := by decide +kernel
theorem dX12_follow_38 : decode cX12_follow 38 = .ok (.invokevirtual 666, 3) := by decide +kernel
theorem dX12_follow_41 : decode cX12_follow 41 = .ok (.return_, 1) := by decide +kernel
theorem dX12_showNow_0 : decode cX12_showNow 0 = .ok (.aload_n 0, 1) := by decide +kernel
theorem dX12_showNow_1 : decode cX12_showNow 1 = .ok (.getfield 222, 3) := by decide +kernel
theorem dX12_showNow_4 : decode cX12_showNow 4 = .ok (.iconst 1, 1) := by decide +kernel
theorem dX12_showNow_5 : decode cX12_showNow 5 = .ok (.iaload, 1) := by decide +kernel
theorem dX12_showNow_6 : decode cX12_showNow 6 = .ok (.istore_n 3, 1) := by decide +kernel
theorem dX12_showNow_7 : decode cX12_showNow 7 = .ok (.aload_n 0, 1) := by decide +kernel
theorem dX12_showNow_8 : decode cX12_showNow 8 = .ok (.getfield 13, 3) := by decide +kernel
theorem dX12_showNow_11 : decode cX12_showNow 11 = .ok (.iload_n 3, 1) := by decide +kernel
theorem dX12_showNow_12 : decode cX12_showNow 12 = .ok (.iaload, 1) := by decide +kernel
theorem dX12_showNow_13 : decode cX12_showNow 13 = .ok (.istore 4, 2) := by decide +kernel
theorem dX12_showNow_15 : decode cX12_showNow 15 = .ok (.aload_n 0, 1) := by decide +kernel
theorem dX12_showNow_16 : decode cX12_showNow 16 = .ok (.iload_n 1, 1) := by decide +kernel
theorem dX12_showNow_17 : decode cX12_showNow 17 = .ok (.iload 4, 2) := by decide +kernel
theorem dX12_showNow_19 : decode cX12_showNow 19 = .ok (.invokevirtual 629, 3) := by decide +kernel
theorem dX12_showNow_22 : decode cX12_showNow 22 = .ok (.ifCond .ne 18, 3) := by decide +kernel
theorem dX12_showNow_25 : decode cX12_showNow 25 = .ok (.aload_n 0, 1) := by decide +kernel
theorem dX12_showNow_26 : decode cX12_showNow 26 = .ok (.iload_n 1, 1) := by decide +kernel
theorem dX12_showNow_27 : decode cX12_showNow 27 = .ok (.iload_n 2, 1) := by decide +kernel
theorem dX12_showNow_28 : decode cX12_showNow 28 = .ok (.iconst 4, 1) := by decide +kernel
theorem dX12_showNow_29 : decode cX12_showNow 29 = .ok (.iload_n 3, 1) := by decide +kernel
theorem dX12_showNow_30 : decode cX12_showNow 30 = .ok (.aload_n 0, 1) := by decide +kernel
theorem dX12_showNow_31 : decode cX12_showNow 31 = .ok (.getfield 222, 3) := by decide +kernel
theorem dX12_showNow_34 : decode cX12_showNow 34 = .ok (.iconst 2, 1) := by decide +kernel
theorem dX12_showNow_35 : decode cX12_showNow 35 = .ok (.iaload, 1) := by decide +kernel
theorem dX12_showNow_36 : decode cX12_showNow 36 = .ok (.invokevirtual 589, 3) := by decide +kernel
theorem dX12_showNow_39 : decode cX12_showNow 39 = .ok (.return_, 1) := by decide +kernel
theorem dX12_showNow_40 : decode cX12_showNow 40 = .ok (.aload_n 0, 1) := by decide +kernel
theorem dX12_showNow_41 : decode cX12_showNow 41 = .ok (.iload_n 1, 1) := by decide +kernel
theorem dX12_showNow_42 : decode cX12_showNow 42 = .ok (.iload 4, 2) := by decide +kernel
theorem dX12_showNow_44 : decode cX12_showNow 44 = .ok (.invokevirtual 364, 3) := by decide +kernel
theorem dX12_showNow_47 : decode cX12_showNow 47 = .ok (.istore 5, 2) := by decide +kernel
theorem dX12_showNow_49 : decode cX12_showNow 49 = .ok (.iconst 0, 1) := by decide +kernel
theorem dX12_showNow_50 : decode cX12_showNow 50 = .ok (.istore 6, 2) := by decide +kernel
theorem dX12_showNow_52 : decode cX12_showNow 52 = .ok (.iload 6, 2) := by decide +kernel
theorem dX12_showNow_54 : decode cX12_showNow 54 = .ok (.aload_n 0, 1) := by decide +kernel
theorem dX12_showNow_55 : decode cX12_showNow 55 = .ok (.getfield 149, 3) := by decide +kernel
theorem dX12_showNow_58 : decode cX12_showNow 58 = .ok (.iload 5, 2) := by decide +kernel
theorem dX12_showNow_60 : decode cX12_showNow 60 = .ok (.iaload, 1) := by decide +kernel
theorem dX12_showNow_61 : decode cX12_showNow 61 = .ok (.if_icmp .ge 27, 3) := by decide +kernel
theorem dX12_showNow_64 : decode cX12_showNow 64 = .ok (.aload_n 0, 1) := by decide +kernel
theorem dX12_showNow_65 : decode cX12_showNow 65 = .ok (.getfield 152, 3) := by decide +kernel
theorem dX12_showNow_68 : decode cX12_showNow 68 = .ok (.bipush 20, 2) := by decide +kernel
theorem dX12_showNow_70 : decode cX12_showNow 70 = .ok (.iload 5, 2) := by decide +kernel
theorem dX12_showNow_72 : decode cX12_showNow 72 = .ok (.imul, 1) := by decide +kernel
theorem dX12_showNow_73 : decode cX12_showNow 73 = .ok (.iload 6, 2) := by decide +kernel
theorem dX12_showNow_75 : decode cX12_showNow 75 = .ok (.iadd, 1) := by decide +kernel
theorem dX12_showNow_76 : decode cX12_showNow 76 = .ok (.iaload, 1) := by decide +kernel
theorem dX12_showNow_77 : decode cX12_showNow 77 = .ok (.iload_n 3, 1) := by decide +kernel
theorem dX12_showNow_78 : decode cX12_showNow 78 = .ok (.if_icmp .ne 4, 3) := by decide +kernel
theorem dX12_showNow_81 : decode cX12_showNow 81 = .ok (.return_, 1) := by decide +kernel
theorem dX12_showNow_82 : decode cX12_showNow 82 = .ok (.iinc 6 1, 3) := by decide +kernel
theorem dX12_showNow_85 : decode cX12_showNow 85 = .ok (.goto (-33), 3) := by decide +kernel
theorem dX12_showNow_88 : decode cX12_showNow 88 = .ok (.aload_n 0, 1) := by decide +kernel
theorem dX12_showNow_89 : decode cX12_showNow 89 = .ok (.getfield 149, 3) := by decide +kernel
theorem dX12_showNow_92 : decode cX12_showNow 92 = .ok (.iload 5, 2) := by decide +kernel
theorem dX12_showNow_94 : decode cX12_showNow 94 = .ok (.iaload, 1) := by decide +kernel
theorem dX12_showNow_95 : decode cX12_showNow 95 = .ok (.bipush 20, 2) := by decide +kernel
theorem dX12_showNow_97 : decode cX12_showNow 97 = .ok (.if_icmp .ne 18, 3) := by decide +kernel
theorem dX12_showNow_100 : decode cX12_showNow 100 = .ok (.aload_n 0, 1) := by decide +kernel
theorem dX12_showNow_101 : decode cX12_showNow 101 = .ok (.iload_n 1, 1) := by decide +kernel
theorem dX12_showNow_102 : decode cX12_showNow 102 = .ok (.iload_n 2, 1) := by decide +kernel
theorem dX12_showNow_103 : decode cX12_showNow 103 = .ok (.iconst 4, 1) := by decide +kernel
theorem dX12_showNow_104 : decode cX12_showNow 104 = .ok (.iload_n 3, 1) := by decide +kernel
theorem dX12_showNow_105 : decode cX12_showNow 105 = .ok (.aload_n 0, 1) := by decide +kernel
theorem dX12_showNow_106 : decode cX12_showNow 106 = .ok (.getfield 222, 3) := by decide +kernel
theorem dX12_showNow_109 : decode cX12_showNow 109 = .ok (.iconst 2, 1) := by decide +kernel
theorem dX12_showNow_110 : decode cX12_showNow 110 = .ok (.iaload, 1) := by decide +kernel
theorem dX12_showNow_111 : decode cX12_showNow 111 = .ok (.invokevirtual 589, 3) := by decide +kernel
theorem dX12_showNow_114 : decode cX12_showNow 114 = .ok (.return_, 1) := by decide +kernel
theorem dX12_showNow_115 : decode cX12_showNow 115 = .ok (.aload_n 0, 1) := by decide +kernel
theorem dX12_showNow_116 : decode cX12_showNow 116 = .ok (.getfield 152, 3) := by decide +kernel
theorem dX12_showNow_119 : decode cX12_showNow 119 = .ok (.bipush 20, 2) := by decide +kernel
theorem dX12_showNow_121 : decode cX12_showNow 121 = .ok (.iload 5, 2) := by decide +kernel
theorem dX12_showNow_123 : decode cX12_showNow 123 = .ok (.imul, 1) := by decide +kernel
theorem dX12_showNow_124 : decode cX12_showNow 124 = .ok (.aload_n 0, 1) := by decide +kernel
theorem dX12_showNow_125 : decode cX12_showNow 125 = .ok (.getfield 149, 3) := by decide +kernel
theorem dX12_showNow_128 : decode cX12_showNow 128 = .ok (.iload 5, 2) := by decide +kernel
theorem dX12_showNow_130 : decode cX12_showNow 130 = .ok (.iaload, 1) := by decide +kernel
theorem dX12_showNow_131 : decode cX12_showNow 131 = .ok (.iadd, 1) := by decide +kernel
theorem dX12_showNow_132 : decode cX12_showNow 132 = .ok (.iload_n 3, 1) := by decide +kernel
theorem dX12_showNow_133 : decode cX12_showNow 133 = .ok (.iastore, 1) := by decide +kernel
theorem dX12_showNow_134 : decode cX12_showNow 134 = .ok (.aload_n 0, 1) := by decide +kernel
theorem dX12_showNow_135 : decode cX12_showNow 135 = .ok (.getfield 155, 3) := by decide +kernel
theorem dX12_showNow_138 : decode cX12_showNow 138 = .ok (.bipush 20, 2) := by decide +kernel
theorem dX12_showNow_140 : decode cX12_showNow 140 = .ok (.iload 5, 2) := by decide +kernel
theorem dX12_showNow_142 : decode cX12_showNow 142 = .ok (.imul, 1) := by decide +kernel
theorem dX12_showNow_143 : decode cX12_showNow 143 = .ok (.aload_n 0, 1) := by decide +kernel
theorem dX12_showNow_144 : decode cX12_showNow 144 = .ok (.getfield 149, 3) := by decide +kernel
theorem dX12_showNow_147 : decode cX12_showNow 147 = .ok (.iload 5, 2) := by decide +kernel
theorem dX12_showNow_149 : decode cX12_showNow 149 = .ok (.iaload, 1) := by decide +kernel
theorem dX12_showNow_150 : decode cX12_showNow 150 = .ok (.iadd, 1) := by decide +kernel
theorem dX12_showNow_151 : decode cX12_showNow 151 = .ok (.aload_n 0, 1) := by decide +kernel
theorem dX12_showNow_152 : decode cX12_showNow 152 = .ok (.getfield 134, 3) := by decide +kernel
theorem dX12_showNow_155 : decode cX12_showNow 155 = .ok (.iload 5, 2) := by decide +kernel
theorem dX12_showNow_157 : decode cX12_showNow 157 = .ok (.iaload, 1) := by decide +kernel
theorem dX12_showNow_158 : decode cX12_showNow 158 = .ok (.iastore, 1) := by decide +kernel
theorem dX12_showNow_159 : decode cX12_showNow 159 = .ok (.aload_n 0, 1) := by decide +kernel
theorem dX12_showNow_160 : decode cX12_showNow 160 = .ok (.getfield 149, 3) := by decide +kernel
theorem dX12_showNow_163 : decode cX12_showNow 163 = .ok (.iload 5, 2) := by decide +kernel
theorem dX12_showNow_165 : decode cX12_showNow 165 = .ok (.dup2, 1) := by decide +kernel
theorem dX12_showNow_166 : decode cX12_showNow 166 = .ok (.iaload, 1) := by decide +kernel
theorem dX12_showNow_167 : decode cX12_showNow 167 = .ok (.iconst 1, 1) := by decide +kernel
theorem dX12_showNow_168 : decode cX12_showNow 168 = .ok (.iadd, 1) := by decide +kernel
theorem dX12_showNow_169 : decode cX12_showNow 169 = .ok (.iastore, 1) := by decide +kernel
theorem dX12_showNow_170 : decode cX12_showNow 170 = .ok (.aload_n 0, 1) := by decide +kernel
theorem dX12_showNow_171 : decode cX12_showNow 171 = .ok (.getfield 134, 3) := by decide +kernel
theorem dX12_showNow_174 : decode cX12_showNow 174 = .ok (.iload 5, 2) := by decide +kernel
theorem dX12_showNow_176 : decode cX12_showNow 176 = .ok (.iaload, 1) := by decide +kernel
theorem dX12_showNow_177 : decode cX12_showNow 177 = .ok (.aload_n 0, 1) := by decide +kernel
theorem dX12_showNow_178 : decode cX12_showNow 178 = .ok (.getfield 137, 3) := by decide +kernel
theorem dX12_showNow_181 : decode cX12_showNow 181 = .ok (.iload 5, 2) := by decide +kernel
theorem dX12_showNow_183 : decode cX12_showNow 183 = .ok (.iaload, 1) := by decide +kernel
theorem dX12_showNow_184 : decode cX12_showNow 184 = .ok (.if_icmp .le 20, 3) := by decide +kernel
theorem dX12_showNow_187 : decode cX12_showNow 187 = .ok (.aload_n 0, 1) := by decide +kernel
theorem dX12_showNow_188 : decode cX12_showNow 188 = .ok (.iload 5, 2) := by decide +kernel
theorem dX12_showNow_190 : decode cX12_showNow 190 = .ok (.aload_n 0, 1) := by decide +kernel
theorem dX12_showNow_191 : decode cX12_showNow 191 = .ok (.getfield 134, 3) := by decide +kernel
theorem dX12_showNow_194 : decode cX12_showNow 194 = .ok (.iload 5, 2) := by decide +kernel
theorem dX12_showNow_196 : decode cX12_showNow 196 = .ok (.iaload, 1) := by decide +kernel
theorem dX12_showNow_197 : decode cX12_showNow 197 = .ok (.invokevirtual 654, 3) := by decide +kernel
theorem dX12_showNow_200 : decode cX12_showNow 200 = .ok (.ifCond .ne 4, 3) := by decide +kernel
theorem dX12_showNow_203 : decode cX12_showNow 203 = .ok (.return_, 1) := by decide +kernel
theorem dX12_showNow_204 : decode cX12_showNow 204 = .ok (.iconst 0, 1) := by decide +kernel
theorem dX12_showNow_205 : decode cX12_showNow 205 = .ok (.istore 6, 2) := by decide +kernel
theorem dX12_showNow_207 : decode cX12_showNow 207 = .ok (.iload 6, 2) := by decide +kernel
theorem dX12_showNow_209 : decode cX12_showNow 209 = .ok (.aload_n 0, 1) := by decide +kernel
theorem dX12_showNow_210 : decode cX12_showNow 210 = .ok (.getfield 321, 3) := by decide +kernel
theorem dX12_showNow_213 : decode cX12_showNow 213 = .ok (.if_icmp .ge 75, 3) := by decide +kernel
theorem dX12_showNow_216 : decode cX12_showNow 216 = .ok (.iconst 5, 1) := by decide +kernel
theorem dX12_showNow_217 : decode cX12_showNow 217 = .ok (.iload 5, 2) := by decide +kernel
theorem dX12_showNow_219 : decode cX12_showNow 219 = .ok (.imul, 1) := by decide +kernel
theorem dX12_showNow_220 : decode cX12_showNow 220 = .ok (.iload 6, 2) := by decide +kernel
theorem dX12_showNow_222 : decode cX12_showNow 222 = .ok (.iadd, 1) := by decide +kernel
theorem dX12_showNow_223 : decode cX12_showNow 223 = .ok (.istore 7, 2) := by decide +kernel
theorem dX12_showNow_225 : decode cX12_showNow 225 = .ok (.aload_n 0, 1) := by decide +kernel
theorem dX12_showNow_226 : decode cX12_showNow 226 = .ok (.iload 5, 2) := by decide +kernel
theorem dX12_showNow_228 : decode cX12_showNow 228 = .ok (.iload 6, 2) := by decide +kernel
theorem dX12_showNow_230 : decode cX12_showNow 230 = .ok (.invokevirtual 431, 3) := by decide +kernel
theorem dX12_showNow_233 : decode cX12_showNow 233 = .ok (.ifCond .eq 49, 3) := by decide +kernel
theorem dX12_showNow_236 : decode cX12_showNow 236 = .ok (.aload_n 0, 1) := by decide +kernel
theorem dX12_showNow_237 : decode cX12_showNow 237 = .ok (.getfield 158, 3) := by decide +kernel
theorem dX12_showNow_240 : decode cX12_showNow 240 = .ok (.iload 7, 2) := by decide +kernel
theorem dX12_showNow_242 : decode cX12_showNow 242 = .ok (.iaload, 1) := by decide +kernel
theorem dX12_showNow_243 : decode cX12_showNow 243 = .ok (.ifCond .le 39, 3) := by decide +kernel
theorem dX12_showNow_246 : decode cX12_showNow 246 = .ok (.aload_n 0, 1) := by decide +kernel
theorem dX12_showNow_247 : decode cX12_showNow 247 = .ok (.getfield 161, 3) := by decide +kernel
theorem dX12_showNow_250 : decode cX12_showNow 250 = .ok (.iload 7, 2) := by decide +kernel
theorem dX12_showNow_252 : decode cX12_showNow 252 = .ok (.iaload, 1) := by decide +kernel
theorem dX12_showNow_253 : decode cX12_showNow 253 = .ok (.iconst (-1), 1) := by decide +kernel
theorem dX12_showNow_254 : decode cX12_showNow 254 = .ok (.if_icmp .eq 28, 3) := by decide +kernel
theorem dX12_showNow_257 : decode cX12_showNow 257 = .ok (.aload_n 0, 1) := by decide +kernel
theorem dX12_showNow_258 : decode cX12_showNow 258 = .ok (.getfield 164, 3) := by decide +kernel
theorem dX12_showNow_261 : decode cX12_showNow 261 = .ok (.iload 7, 2) := by decide +kernel
theorem dX12_showNow_263 : decode cX12_showNow 263 = .ok (.iaload, 1) := by decide +kernel
theorem dX12_showNow_264 : decode cX12_showNow 264 = .ok (.aload_n 0, 1) := by decide +kernel
theorem dX12_showNow_265 : decode cX12_showNow 265 = .ok (.getfield 137, 3) := by decide +kernel
theorem dX12_showNow_268 : decode cX12_showNow 268 = .ok (.iload 5, 2) := by decide +kernel
theorem dX12_showNow_270 : decode cX12_showNow 270 = .ok (.iaload, 1) := by decide +kernel
theorem dX12_showNow_271 : decode cX12_showNow 271 = .ok (.if_icmp .ge 11, 3) := by decide +kernel
theorem dX12_showNow_274 : decode cX12_showNow 274 = .ok (.aload_n 0, 1) := by decide +kernel
theorem dX12_showNow_275 : decode cX12_showNow 275 = .ok (.iload 5, 2) := by decide +kernel
theorem dX12_showNow_277 : decode cX12_showNow 277 = .ok (.iload 6, 2) := by decide +kernel
theorem dX12_showNow_279 : decode cX12_showNow 279 = .ok (.invokevirtual 669, 3) := by decide +kernel
theorem dX12_showNow_282 : decode cX12_showNow 282 = .ok (.iinc 6 1, 3) := by decide +kernel
theorem dX12_showNow_285 : decode cX12_showNow 285 = .ok (.goto (-78), 3) := by decide +kernel
theorem dX12_showNow_288 : decode cX12_showNow 288 = .ok (.aload_n 0, 1) := by decide +kernel
theorem dX12_showNow_289 : decode cX12_showNow 289 = .ok (.iload 5, 2) := by decide +kernel
theorem dX12_showNow_291 : decode cX12_showNow 291 = .ok (.invokevirtual 456, 3) := by decide +kernel
theorem dX12_showNow_294 : decode cX12_showNow 294 = .ok (.return_, 1) := by decide +kernel
theorem dX12_sendShowTo_0 : decode cX12_sendShowTo 0 = .ok (.aload_n 0, 1) := by decide +kernel
theorem dX12_sendShowTo_1 : decode cX12_sendShowTo 1 = .ok (.getfield 219, 3) := by decide +kernel
theorem dX12_sendShowTo_4 : decode cX12_sendShowTo 4 = .ok (.iconst 0, 1) := by decide +kernel
theorem dX12_sendShowTo_5 : decode cX12_sendShowTo 5 = .ok (.bipush 18, 2) := by decide +kernel
theorem dX12_sendShowTo_7 : decode cX12_sendShowTo 7 = .ok (.iastore, 1) := by decide +kernel
theorem dX12_sendShowTo_8 : decode cX12_sendShowTo 8 = .ok (.aload_n 0, 1) := by decide +kernel
theorem dX12_sendShowTo_9 : decode cX12_sendShowTo 9 = .ok (.getfield 219, 3) := by decide +kernel
theorem dX12_sendShowTo_12 : decode cX12_sendShowTo 12 = .ok (.iconst 1, 1) := by decide +kernel
theorem dX12_sendShowTo_13 : decode cX12_sendShowTo 13 = .ok (.iload_n 1, 1) := by decide +kernel
theorem dX12_sendShowTo_14 : decode cX12_sendShowTo 14 = .ok (.iconst 4, 1) := by decide +kernel
theorem dX12_sendShowTo_15 : decode cX12_sendShowTo 15 = .ok (.irem, 1) := by decide +kernel
theorem dX12_sendShowTo_16 : decode cX12_sendShowTo 16 = .ok (.iastore, 1) := by decide +kernel
theorem dX12_sendShowTo_17 : decode cX12_sendShowTo 17 = .ok (.aload_n 0, 1) := by decide +kernel
theorem dX12_sendShowTo_18 : decode cX12_sendShowTo 18 = .ok (.getfield 219, 3) := by decide +kernel
theorem dX12_sendShowTo_21 : decode cX12_sendShowTo 21 = .ok (.iconst 2, 1) := by decide +kernel
theorem dX12_sendShowTo_22 : decode cX12_sendShowTo 22 = .ok (.aload_n 0, 1) := by decide +kernel
theorem dX12_sendShowTo_23 : decode cX12_sendShowTo 23 = .ok (.getfield 125, 3) := by decide +kernel
theorem dX12_sendShowTo_26 : decode cX12_sendShowTo 26 = .ok (.iload_n 1, 1) := by decide +kernel
theorem dX12_sendShowTo_27 : decode cX12_sendShowTo 27 = .ok (.iaload, 1) := by decide +kernel
theorem dX12_sendShowTo_28 : decode cX12_sendShowTo 28 = .ok (.iastore, 1) := by decide +kernel
theorem dX12_sendShowTo_29 : decode cX12_sendShowTo 29 = .ok (.aload_n 0, 1) := by decide +kernel
theorem dX12_sendShowTo_30 : decode cX12_sendShowTo 30 = .ok (.getfield 219, 3) := by decide +kernel
theorem dX12_sendShowTo_33 : decode cX12_sendShowTo 33 = .ok (.iconst 3, 1) := by decide +kernel
theorem dX12_sendShowTo_34 : decode cX12_sendShowTo 34 = .ok (.aload_n 0, 1) := by decide +kernel
theorem dX12_sendShowTo_35 : decode cX12_sendShowTo 35 = .ok (.getfield 137, 3) := by decide +kernel
theorem dX12_sendShowTo_38 : decode cX12_sendShowTo 38 = .ok (.iload_n 1, 1) := by decide +kernel
theorem dX12_sendShowTo_39 : decode cX12_sendShowTo 39 = .ok (.iaload, 1) := by decide +kernel
theorem dX12_sendShowTo_40 : decode cX12_sendShowTo 40 = .ok (.iastore, 1) := by decide +kernel
theorem dX12_sendShowTo_41 : decode cX12_sendShowTo 41 = .ok (.aload_n 0, 1) := by decide +kernel
theorem dX12_sendShowTo_42 : decode cX12_sendShowTo 42 = .ok (.iload_n 1, 1) := by decide +kernel
theorem dX12_sendShowTo_43 : decode cX12_sendShowTo 43 = .ok (.iconst 4, 1) := by decide +kernel
theorem dX12_sendShowTo_44 : decode cX12_sendShowTo 44 = .ok (.idiv, 1) := by decide +kernel
theorem dX12_sendShowTo_45 : decode cX12_sendShowTo 45 = .ok (.iload_n 2, 1) := by decide +kernel
theorem dX12_sendShowTo_46 : decode cX12_sendShowTo 46 = .ok (.iconst 4, 1) := by decide +kernel
theorem dX12_sendShowTo_47 : decode cX12_sendShowTo 47 = .ok (.invokevirtual 446, 3) := by decide +kernel
theorem dX12_sendShowTo_50 : decode cX12_sendShowTo 50 = .ok (.return_, 1) := by decide +kernel
theorem dX12_showTo_0 : decode cX12_showTo 0 = .ok (.aload_n 0, 1) := by decide +kernel
theorem dX12_showTo_1 : decode cX12_showTo 1 = .ok (.getfield 222, 3) := by decide +kernel
theorem dX12_showTo_4 : decode cX12_showTo 4 = .ok (.iconst 1, 1) := by decide +kernel
theorem dX12_showTo_5 : decode cX12_showTo 5 = .ok (.iaload, 1) := by decide +kernel
theorem dX12_showTo_6 : decode cX12_showTo 6 = .ok (.istore_n 3, 1) := by decide +kernel
theorem dX12_showTo_7 : decode cX12_showTo 7 = .ok (.aload_n 0, 1) := by decide +kernel
theorem dX12_showTo_8 : decode cX12_showTo 8 = .ok (.getfield 222, 3) := by decide +kernel
theorem dX12_showTo_11 : decode cX12_showTo 11 = .ok (.iconst 2, 1) := by decide +kernel
theorem dX12_showTo_12 : decode cX12_showTo 12 = .ok (.iaload, 1) := by decide +kernel
theorem dX12_showTo_13 : decode cX12_showTo 13 = .ok (.istore 4, 2) := by decide +kernel
theorem dX12_showTo_15 : decode cX12_showTo 15 = .ok (.aload_n 0, 1) := by decide +kernel
theorem dX12_showTo_16 : decode cX12_showTo 16 = .ok (.getfield 222, 3) := by decide +kernel
theorem dX12_showTo_19 : decode cX12_showTo 19 = .ok (.iconst 3, 1) := by decide +kernel
theorem dX12_showTo_20 : decode cX12_showTo 20 = .ok (.iaload, 1) := by decide +kernel
theorem dX12_showTo_21 : decode cX12_showTo 21 = .ok (.istore 5, 2) := by decide +kernel
theorem dX12_showTo_23 : decode cX12_showTo 23 = .ok (.aload_n 0, 1) := by decide +kernel
theorem dX12_showTo_24 : decode cX12_showTo 24 = .ok (.iload_n 1, 1) := by decide +kernel
theorem dX12_showTo_25 : decode cX12_showTo 25 = .ok (.iload_n 3, 1) := by decide +kernel
theorem dX12_showTo_26 : decode cX12_showTo 26 = .ok (.invokevirtual 352, 3) := by decide +kernel
theorem dX12_showTo_29 : decode cX12_showTo 29 = .ok (.ifCond .eq 28, 3) := by decide +kernel
theorem dX12_showTo_32 : decode cX12_showTo 32 = .ok (.iload 4, 2) := by decide +kernel
theorem dX12_showTo_34 : decode cX12_showTo 34 = .ok (.aload_n 0, 1) := by decide +kernel
theorem dX12_showTo_35 : decode cX12_showTo 35 = .ok (.getfield 125, 3) := by decide +kernel
theorem dX12_showTo_38 : decode cX12_showTo 38 = .ok (.aload_n 0, 1) := by decide +kernel
theorem dX12_showTo_39 : decode cX12_showTo 39 = .ok (.iload_n 1, 1) := by decide +kernel
theorem dX12_showTo_40 : decode cX12_showTo 40 = .ok (.iload_n 3, 1) := by decide +kernel
theorem dX12_showTo_41 : decode cX12_showTo 41 = .ok (.invokevirtual 364, 3) := by decide +kernel
theorem dX12_showTo_44 : decode cX12_showTo 44 = .ok (.iaload, 1) := by decide +kernel
theorem dX12_showTo_45 : decode cX12_showTo 45 = .ok (.if_icmp .lt 12, 3) := by decide +kernel
theorem dX12_showTo_48 : decode cX12_showTo 48 = .ok (.aload_n 0, 1) := by decide +kernel
theorem dX12_showTo_49 : decode cX12_showTo 49 = .ok (.iload_n 1, 1) := by decide +kernel
theorem dX12_showTo_50 : decode cX12_showTo 50 = .ok (.iload_n 3, 1) := by decide +kernel
theorem dX12_showTo_51 : decode cX12_showTo 51 = .ok (.invokevirtual 629, 3) := by decide +kernel
theorem dX12_showTo_54 : decode cX12_showTo 54 = .ok (.ifCond .eq 4, 3) := by decide +kernel
theorem dX12_showTo_57 : decode cX12_showTo 57 = .ok (.return_, 1) := by decide +kernel
theorem dX12_showTo_58 : decode cX12_showTo 58 = .ok (.aload_n 0, 1) := by decide +kernel
theorem dX12_showTo_59 : decode cX12_showTo 59 = .ok (.iload_n 1, 1) := by decide +kernel
theorem dX12_showTo_60 : decode cX12_showTo 60 = .ok (.iload_n 3, 1) := by decide +kernel
theorem dX12_showTo_61 : decode cX12_showTo 61 = .ok (.invokevirtual 364, 3) := by decide +kernel
theorem dX12_showTo_64 : decode cX12_showTo 64 = .ok (.istore 6, 2) := by decide +kernel
theorem dX12_showTo_66 : decode cX12_showTo 66 = .ok (.iload 4, 2) := by decide +kernel
theorem dX12_showTo_68 : decode cX12_showTo 68 = .ok (.aload_n 0, 1) := by decide +kernel
theorem dX12_showTo_69 : decode cX12_showTo 69 = .ok (.getfield 125, 3) := by decide +kernel
theorem dX12_showTo_72 : decode cX12_showTo 72 = .ok (.iload 6, 2) := by decide +kernel
theorem dX12_showTo_74 : decode cX12_showTo 74 = .ok (.iaload, 1) := by decide +kernel
theorem dX12_showTo_75 : decode cX12_showTo 75 = .ok (.if_icmp .le 13, 3) := by decide +kernel
theorem dX12_showTo_78 : decode cX12_showTo 78 = .ok (.aload_n 0, 1) := by decide +kernel
theorem dX12_showTo_79 : decode cX12_showTo 79 = .ok (.iload_n 1, 1) := by decide +kernel
theorem dX12_showTo_80 : decode cX12_showTo 80 = .ok (.iload_n 2, 1) := by decide +kernel
theorem dX12_showTo_81 : decode cX12_showTo 81 = .ok (.iload_n 3, 1) := by decide +kernel
theorem dX12_showTo_82 : decode cX12_showTo 82 = .ok (.iload 4, 2) := by decide +kernel
theorem dX12_showTo_84 : decode cX12_showTo 84 = .ok (.invokevirtual 641, 3) := by decide +kernel
theorem dX12_showTo_87 : decode cX12_showTo 87 = .ok (.return_, 1) := by decide +kernel
theorem dX12_showTo_88 : decode cX12_showTo 88 = .ok (.aload_n 0, 1) := by decide +kernel
theorem dX12_showTo_89 : decode cX12_showTo 89 = .ok (.getfield 131, 3) := by decide +kernel
theorem dX12_showTo_92 : decode cX12_showTo 92 = .ok (.iload 6, 2) := by decide +kernel
theorem dX12_showTo_94 : decode cX12_showTo 94 = .ok (.iaload, 1) := by decide +kernel
theorem dX12_showTo_95 : decode cX12_showTo 95 = .ok (.iload 5, 2) := by decide +kernel
theorem dX12_showTo_97 : decode cX12_showTo 97 = .ok (.if_icmp .ge 4, 3) := by decide +kernel
theorem dX12_showTo_100 : decode cX12_showTo 100 = .ok (.return_, 1) := by decide +kernel
theorem dX12_showTo_101 : decode cX12_showTo 101 = .ok (.aload_n 0, 1) := by decide +kernel
theorem dX12_showTo_102 : decode cX12_showTo 102 = .ok (.getfield 134, 3) := by decide +kernel
theorem dX12_showTo_105 : decode cX12_showTo 105 = .ok (.iload 6, 2) := by decide +kernel
theorem dX12_showTo_107 : decode cX12_showTo 107 = .ok (.aload_n 0, 1) := by decide +kernel
theorem dX12_showTo_108 : decode cX12_showTo 108 = .ok (.getfield 134, 3) := by decide +kernel
theorem dX12_showTo_111 : decode cX12_showTo 111 = .ok (.iload 6, 2) := by decide +kernel
theorem dX12_showTo_113 : decode cX12_showTo 113 = .ok (.iaload, 1) := by decide +kernel
theorem dX12_showTo_114 : decode cX12_showTo 114 = .ok (.iload 5, 2) := by decide +kernel
theorem dX12_showTo_116 : decode cX12_showTo 116 = .ok (.invokestatic 425, 3) := by decide +kernel
theorem dX12_showTo_119 : decode cX12_showTo 119 = .ok (.iastore, 1) := by decide +kernel
theorem dX12_showTo_120 : decode cX12_showTo 120 = .ok (.iload 5, 2) := by decide +kernel
theorem dX12_showTo_122 : decode cX12_showTo 122 = .ok (.aload_n 0, 1) := by decide +kernel
theorem dX12_showTo_123 : decode cX12_showTo 123 = .ok (.getfield 137, 3) := by decide +kernel
theorem dX12_showTo_126 : decode cX12_showTo 126 = .ok (.iload 6, 2) := by decide +kernel
theorem dX12_showTo_128 : decode cX12_showTo 128 = .ok (.iaload, 1) := by decide +kernel
theorem dX12_showTo_129 : decode cX12_showTo 129 = .ok (.if_icmp .le 15, 3) := by decide +kernel
theorem dX12_showTo_132 : decode cX12_showTo 132 = .ok (.aload_n 0, 1) := by decide +kernel
theorem dX12_showTo_133 : decode cX12_showTo 133 = .ok (.iload 6, 2) := by decide +kernel
theorem dX12_showTo_135 : decode cX12_showTo 135 = .ok (.iload 5, 2) := by decide +kernel
theorem dX12_showTo_137 : decode cX12_showTo 137 = .ok (.invokevirtual 654, 3) := by decide +kernel
theorem dX12_showTo_140 : decode cX12_showTo 140 = .ok (.ifCond .ne 4, 3) := by decide +kernel
theorem dX12_showTo_143 : decode cX12_showTo 143 = .ok (.return_, 1) := by decide +kernel
theorem dX12_showTo_144 : decode cX12_showTo 144 = .ok (.aload_n 0, 1) := by decide +kernel
theorem dX12_showTo_145 : decode cX12_showTo 145 = .ok (.iload 6, 2) := by decide +kernel
theorem dX12_showTo_147 : decode cX12_showTo 147 = .ok (.iload_n 2, 1) := by decide +kernel
theorem dX12_showTo_148 : decode cX12_showTo 148 = .ok (.invokevirtual 645, 3) := by decide +kernel
theorem dX12_showTo_151 : decode cX12_showTo 151 = .ok (.return_, 1) := by decide +kernel
theorem dX12_sendConfig_0 : decode cX12_sendConfig 0 = .ok (.aload_n 0, 1) := by decide +kernel
theorem dX12_sendConfig_1 : decode cX12_sendConfig 1 = .ok (.getfield 219, 3) := by decide +kernel
theorem dX12_sendConfig_4 : decode cX12_sendConfig 4 = .ok (.iconst 0, 1) := by decide +kernel
theorem dX12_sendConfig_5 : decode cX12_sendConfig 5 = .ok (.bipush 14, 2) := by decide +kernel
theorem dX12_sendConfig_7 : decode cX12_sendConfig 7 = .ok (.iastore, 1) := by decide +kernel
theorem dX12_sendConfig_8 : decode cX12_sendConfig 8 = .ok (.aload_n 0, 1) := by decide +kernel
theorem dX12_sendConfig_9 : decode cX12_sendConfig 9 = .ok (.getfield 219, 3) := by decide +kernel
theorem dX12_sendConfig_12 : decode cX12_sendConfig 12 = .ok (.iconst 1, 1) := by decide +kernel
theorem dX12_sendConfig_13 : decode cX12_sendConfig 13 = .ok (.iload_n 2, 1) := by decide +kernel
theorem dX12_sendConfig_14 : decode cX12_sendConfig 14 = .ok (.iastore, 1) := by decide +kernel
theorem dX12_sendConfig_15 : decode cX12_sendConfig 15 = .ok (.aload_n 0, 1) := by decide +kernel
theorem dX12_sendConfig_16 : decode cX12_sendConfig 16 = .ok (.getfield 219, 3) := by decide +kernel
theorem dX12_sendConfig_19 : decode cX12_sendConfig 19 = .ok (.iconst 2, 1) := by decide +kernel
theorem dX12_sendConfig_20 : decode cX12_sendConfig 20 = .ok (.aload_n 0, 1) := by decide +kernel
theorem dX12_sendConfig_21 : decode cX12_sendConfig 21 = .ok (.getfield 176, 3) := by decide +kernel
theorem dX12_sendConfig_24 : decode cX12_sendConfig 24 = .ok (.bipush 20, 2) := by decide +kernel
theorem dX12_sendConfig_26 : decode cX12_sendConfig 26 = .ok (.iload_n 2, 1) := by decide +kernel
theorem dX12_sendConfig_27 : decode cX12_sendConfig 27 = .ok (.iadd, 1) := by decide +kernel
theorem dX12_sendConfig_28 : decode cX12_sendConfig 28 = .ok (.iaload, 1) := by decide +kernel
theorem dX12_sendConfig_29 : decode cX12_sendConfig 29 = .ok (.iastore, 1) := by decide +kernel
theorem dX12_sendConfig_30 : decode cX12_sendConfig 30 = .ok (.aload_n 0, 1) := by decide +kernel
theorem dX12_sendConfig_31 : decode cX12_sendConfig 31 = .ok (.getfield 219, 3) := by decide +kernel
theorem dX12_sendConfig_34 : decode cX12_sendConfig 34 = .ok (.iconst 3, 1) := by decide +kernel
theorem dX12_sendConfig_35 : decode cX12_sendConfig 35 = .ok (.aload_n 0, 1) := by decide +kernel
theorem dX12_sendConfig_36 : decode cX12_sendConfig 36 = .ok (.getfield 179, 3) := by decide +kernel
theorem dX12_sendConfig_39 : decode cX12_sendConfig 39 = .ok (.bipush 20, 2) := by decide +kernel
theorem dX12_sendConfig_41 : decode cX12_sendConfig 41 = .ok (.iload_n 2, 1) := by decide +kernel
theorem dX12_sendConfig_42 : decode cX12_sendConfig 42 = .ok (.iadd, 1) := by decide +kernel
theorem dX12_sendConfig_43 : decode cX12_sendConfig 43 = .ok (.iaload, 1) := by decide +kernel
theorem dX12_sendConfig_44 : decode cX12_sendConfig 44 = .ok (.iastore, 1) := by decide +kernel
theorem dX12_sendConfig_45 : decode cX12_sendConfig 45 = .ok (.aload_n 0, 1) := by decide +kernel
theorem dX12_sendConfig_46 : decode cX12_sendConfig 46 = .ok (.getfield 219, 3) := by decide +kernel
theorem dX12_sendConfig_49 : decode cX12_sendConfig 49 = .ok (.iconst 4, 1) := by decide +kernel
theorem dX12_sendConfig_50 : decode cX12_sendConfig 50 = .ok (.aload_n 0, 1) := by decide +kernel
theorem dX12_sendConfig_51 : decode cX12_sendConfig 51 = .ok (.getfield 182, 3) := by decide +kernel
theorem dX12_sendConfig_54 : decode cX12_sendConfig 54 = .ok (.bipush 20, 2) := by decide +kernel
theorem dX12_sendConfig_56 : decode cX12_sendConfig 56 = .ok (.iload_n 2, 1) := by decide +kernel
theorem dX12_sendConfig_57 : decode cX12_sendConfig 57 = .ok (.iadd, 1) := by decide +kernel
theorem dX12_sendConfig_58 : decode cX12_sendConfig 58 = .ok (.iaload, 1) := by decide +kernel
theorem dX12_sendConfig_59 : decode cX12_sendConfig 59 = .ok (.iastore, 1) := by decide +kernel
theorem dX12_sendConfig_60 : decode cX12_sendConfig 60 = .ok (.aload_n 0, 1) := by decide +kernel
theorem dX12_sendConfig_61 : decode cX12_sendConfig 61 = .ok (.getfield 219, 3) := by decide +kernel
theorem dX12_sendConfig_64 : decode cX12_sendConfig 64 = .ok (.iconst 5, 1) := by decide +kernel
theorem dX12_sendConfig_65 : decode cX12_sendConfig 65 = .ok (.aload_n 0, 1) := by decide +kernel
theorem dX12_sendConfig_66 : decode cX12_sendConfig 66 = .ok (.getfield 185, 3) := by decide +kernel
theorem dX12_sendConfig_69 : decode cX12_sendConfig 69 = .ok (.bipush 20, 2) := by decide +kernel
theorem dX12_sendConfig_71 : decode cX12_sendConfig 71 = .ok (.iload_n 2, 1) := by decide +kernel
theorem dX12_sendConfig_72 : decode cX12_sendConfig 72 = .ok (.iadd, 1) := by decide +kernel
theorem dX12_sendConfig_73 : decode cX12_sendConfig 73 = .ok (.iaload, 1) := by decide +kernel
theorem dX12_sendConfig_74 : decode cX12_sendConfig 74 = .ok (.iastore, 1) := by decide +kernel
theorem dX12_sendConfig_75 : decode cX12_sendConfig 75 = .ok (.aload_n 0, 1) := by decide +kernel
theorem dX12_sendConfig_76 : decode cX12_sendConfig 76 = .ok (.aload_n 0, 1) := by decide +kernel
theorem dX12_sendConfig_77 : decode cX12_sendConfig 77 = .ok (.getfield 321, 3) := by decide +kernel
theorem dX12_sendConfig_80 : decode cX12_sendConfig 80 = .ok (.iload_n 1, 1) := by decide +kernel
theorem dX12_sendConfig_81 : decode cX12_sendConfig 81 = .ok (.bipush 6, 2) := by decide +kernel
theorem dX12_sendConfig_83 : decode cX12_sendConfig 83 = .ok (.invokevirtual 446, 3) := by decide +kernel
theorem dX12_sendConfig_86 : decode cX12_sendConfig 86 = .ok (.return_, 1) := by decide +kernel
theorem dX12_change_0 : decode cX12_change 0 = .ok (.aload_n 0, 1) := by decide +kernel
theorem dX12_change_1 : decode cX12_change 1 = .ok (.bipush 20, 2) := by decide +kernel
theorem dX12_change_3 : decode cX12_change 3 = .ok (.bipush 10, 2) := by decide +kernel
theorem dX12_change_5 : decode cX12_change 5 = .ok (.invokevirtual 412, 3) := by decide +kernel
theorem dX12_change_8 : decode cX12_change 8 = .ok (.ifCond .ne 14, 3) := by decide +kernel
theorem dX12_change_11 : decode cX12_change 11 = .ok (.aload_n 0, 1) := by decide +kernel
theorem dX12_change_12 : decode cX12_change 12 = .ok (.bipush 20, 2) := by decide +kernel
theorem dX12_change_14 : decode cX12_change 14 = .ok (.invokevirtual 408, 3) := by decide +kernel
theorem dX12_change_17 : decode cX12_change 17 = .ok (.ifCond .ne 5, 3) := by decide +kernel
theorem dX12_change_20 : decode cX12_change 20 = .ok (.iconst 0, 1) := by decide +kernel
theorem dX12_change_21 : decode cX12_change 21 = .ok (.ireturn, 1) := by decide +kernel
theorem dX12_change_22 : decode cX12_change 22 = .ok (.aload_n 0, 1) := by decide +kernel
theorem dX12_change_23 : decode cX12_change 23 = .ok (.bipush 20, 2) := by decide +kernel
theorem dX12_change_25 : decode cX12_change 25 = .ok (.iload_n 1, 1) := by decide +kernel
theorem dX12_change_26 : decode cX12_change 26 = .ok (.iadd, 1) := by decide +kernel
theorem dX12_change_27 : decode cX12_change 27 = .ok (.iload_n 2, 1) := by decide +kernel
theorem dX12_change_28 : decode cX12_change 28 = .ok (.iload_n 3, 1) := by decide +kernel
theorem dX12_change_29 : decode cX12_change 29 = .ok (.iload 4, 2) := by decide +kernel
theorem dX12_change_31 : decode cX12_change 31 = .ok (.aload_n 0, 1) := by decide +kernel
theorem dX12_change_32 : decode cX12_change 32 = .ok (.getfield 185, 3) := by decide +kernel
theorem dX12_change_35 : decode cX12_change 35 = .ok (.bipush 20, 2) := by decide +kernel
theorem dX12_change_37 : decode cX12_change 37 = .ok (.iload_n 1, 1) := by decide +kernel
theorem dX12_change_38 : decode cX12_change 38 = .ok (.iadd, 1) := by decide +kernel
theorem dX12_change_39 : decode cX12_change 39 = .ok (.iaload, 1) := by decide +kernel
theorem dX12_change_40 : decode cX12_change 40 = .ok (.iconst 1, 1) := by decide +kernel
theorem dX12_change_41 : decode cX12_change 41 = .ok (.iadd, 1) := by decide +kernel
theorem dX12_change_42 : decode cX12_change 42 = .ok (.invokevirtual 348, 3) := by decide +kernel
theorem dX12_change_45 : decode cX12_change 45 = .ok (.aload_n 0, 1) := by decide +kernel
theorem dX12_change_46 : decode cX12_change 46 = .ok (.iconst 0, 1) := by decide +kernel
theorem dX12_change_47 : decode cX12_change 47 = .ok (.putfield 377, 3) := by decide +kernel
theorem dX12_change_50 : decode cX12_change 50 = .ok (.aload_n 0, 1) := by decide +kernel
theorem dX12_change_51 : decode cX12_change 51 = .ok (.bipush 7, 2) := by decide +kernel
theorem dX12_change_53 : decode cX12_change 53 = .ok (.invokevirtual 380, 3) := by decide +kernel
theorem dX12_change_56 : decode cX12_change 56 = .ok (.aload_n 0, 1) := by decide +kernel
theorem dX12_change_57 : decode cX12_change 57 = .ok (.bipush 7, 2) := by decide +kernel
theorem dX12_change_59 : decode cX12_change 59 = .ok (.invokevirtual 380, 3) := by decide +kernel
theorem dX12_change_62 : decode cX12_change 62 = .ok (.aload_n 0, 1) := by decide +kernel
theorem dX12_change_63 : decode cX12_change 63 = .ok (.iload_n 1, 1) := by decide +kernel
theorem dX12_change_64 : decode cX12_change 64 = .ok (.invokevirtual 380, 3) := by decide +kernel
theorem dX12_change_67 : decode cX12_change 67 = .ok (.aload_n 0, 1) := by decide +kernel
theorem dX12_change_68 : decode cX12_change 68 = .ok (.iload_n 2, 1) := by decide +kernel
theorem dX12_change_69 : decode cX12_change 69 = .ok (.invokevirtual 415, 3) := by decide +kernel
theorem dX12_change_72 : decode cX12_change 72 = .ok (.aload_n 0, 1) := by decide +kernel
theorem dX12_change_73 : decode cX12_change 73 = .ok (.iload_n 3, 1) := by decide +kernel
theorem dX12_change_74 : decode cX12_change 74 = .ok (.invokevirtual 380, 3) := by decide +kernel
theorem dX12_change_77 : decode cX12_change 77 = .ok (.aload_n 0, 1) := by decide +kernel
theorem dX12_change_78 : decode cX12_change 78 = .ok (.iload 4, 2) := by decide +kernel
theorem dX12_change_80 : decode cX12_change 80 = .ok (.invokevirtual 380, 3) := by decide +kernel
theorem dX12_change_83 : decode cX12_change 83 = .ok (.aload_n 0, 1) := by decide +kernel
theorem dX12_change_84 : decode cX12_change 84 = .ok (.aload_n 0, 1) := by decide +kernel
theorem dX12_change_85 : decode cX12_change 85 = .ok (.getfield 185, 3) := by decide +kernel
theorem dX12_change_88 : decode cX12_change 88 = .ok (.bipush 20, 2) := by decide +kernel
theorem dX12_change_90 : decode cX12_change 90 = .ok (.iload_n 1, 1) := by decide +kernel
theorem dX12_change_91 : decode cX12_change 91 = .ok (.iadd, 1) := by decide +kernel
theorem dX12_change_92 : decode cX12_change 92 = .ok (.iaload, 1) := by decide +kernel
theorem dX12_change_93 : decode cX12_change 93 = .ok (.invokevirtual 415, 3) := by decide +kernel
theorem dX12_change_96 : decode cX12_change 96 = .ok (.aload_n 0, 1) := by decide +kernel
theorem dX12_change_97 : decode cX12_change 97 = .ok (.sipush 255, 3) := by decide +kernel
theorem dX12_change_100 : decode cX12_change 100 = .ok (.invokevirtual 380, 3) := by decide +kernel
theorem dX12_change_103 : decode cX12_change 103 = .ok (.aload_n 0, 1) := by decide +kernel
theorem dX12_change_104 : decode cX12_change 104 = .ok (.bipush 20, 2) := by decide +kernel
theorem dX12_change_106 : decode cX12_change 106 = .ok (.invokevirtual 418, 3) := by decide +kernel
theorem dX12_change_109 : decode cX12_change 109 = .ok (.ifCond .ne 5, 3) := by decide +kernel
theorem dX12_change_112 : decode cX12_change 112 = .ok (.iconst 0, 1) := by decide +kernel
theorem dX12_change_113 : decode cX12_change 113 = .ok (.ireturn, 1) := by decide +kernel
theorem dX12_change_114 : decode cX12_change 114 = .ok (.iconst 0, 1) := by decide +kernel
theorem dX12_change_115 : decode cX12_change 115 = .ok (.istore 5, 2) := by decide +kernel
theorem dX12_change_117 : decode cX12_change 117 = .ok (.iload 5, 2) := by decide +kernel
theorem dX12_change_119 : decode cX12_change 119 = .ok (.aload_n 0, 1) := by decide +kernel
theorem dX12_change_120 : decode cX12_change 120 = .ok (.getfield 321, 3) := by decide +kernel
theorem dX12_change_123 : decode cX12_change 123 = .ok (.if_icmp .ge 26, 3) := by decide +kernel
theorem dX12_change_126 : decode cX12_change 126 = .ok (.aload_n 0, 1) := by decide +kernel
theorem dX12_change_127 : decode cX12_change 127 = .ok (.iload 5, 2) := by decide +kernel
theorem dX12_change_129 : decode cX12_change 129 = .ok (.iload_n 1, 1) := by decide +kernel
theorem dX12_change_130 : decode cX12_change 130 = .ok (.invokevirtual 352, 3) := by decide +kernel
theorem dX12_change_133 : decode cX12_change 133 = .ok (.ifCond .eq 10, 3) := by decide +kernel
theorem dX12_change_136 : decode cX12_change 136 = .ok (.aload_n 0, 1) := by decide +kernel
theorem dX12_change_137 : decode cX12_change 137 = .ok (.iload 5, 2) := by decide +kernel
theorem dX12_change_139 : decode cX12_change 139 = .ok (.iload_n 1, 1) := by decide +kernel
theorem dX12_change_140 : decode cX12_change 140 = .ok (.invokevirtual 672, 3) := by decide +kernel
theorem dX12_change_143 : decode cX12_change 143 = .ok (.iinc 5 1, 3) := by decide +kernel
theorem dX12_change_146 : decode cX12_change 146 = .ok (.goto (-29), 3) := by decide +kernel
theorem dX12_change_149 : decode cX12_change 149 = .ok (.iconst 1, 1) := by decide +kernel
theorem dX12_change_150 : decode cX12_change 150 = .ok (.ireturn, 1) := by decide +kernel
theorem dX12_promote_0 : decode cX12_promote 0 = .ok (.bipush 20, 2) := by decide +kernel
theorem dX12_promote_2 : decode cX12_promote 2 = .ok (.iload_n 1, 1) := by decide +kernel
theorem dX12_promote_3 : decode cX12_promote 3 = .ok (.iadd, 1) := by decide +kernel
theorem dX12_promote_4 : decode cX12_promote 4 = .ok (.istore_n 2, 1) := by decide +kernel
theorem dX12_promote_5 : decode cX12_promote 5 = .ok (.iconst 0, 1) := by decide +kernel
theorem dX12_promote_6 : decode cX12_promote 6 = .ok (.istore_n 3, 1) := by decide +kernel
theorem dX12_promote_7 : decode cX12_promote 7 = .ok (.iload_n 3, 1) := by decide +kernel
theorem dX12_promote_8 : decode cX12_promote 8 = .ok (.aload_n 0, 1) := by decide +kernel
theorem dX12_promote_9 : decode cX12_promote 9 = .ok (.getfield 321, 3) := by decide +kernel
theorem dX12_promote_12 : decode cX12_promote 12 = .ok (.if_icmp .ge 32, 3) := by decide +kernel
theorem dX12_promote_15 : decode cX12_promote 15 = .ok (.aload_n 0, 1) := by decide +kernel
theorem dX12_promote_16 : decode cX12_promote 16 = .ok (.getfield 182, 3) := by decide +kernel
theorem dX12_promote_19 : decode cX12_promote 19 = .ok (.iload_n 2, 1) := by decide +kernel
theorem dX12_promote_20 : decode cX12_promote 20 = .ok (.iaload, 1) := by decide +kernel
theorem dX12_promote_21 : decode cX12_promote 21 = .ok (.iload_n 3, 1) := by decide +kernel
theorem dX12_promote_22 : decode cX12_promote 22 = .ok (.ishr, 1) := by decide +kernel
theorem dX12_promote_23 : decode cX12_promote 23 = .ok (.iconst 1, 1) := by decide +kernel
theorem dX12_promote_24 : decode cX12_promote 24 = .ok (.iand, 1) := by decide +kernel
theorem dX12_promote_25 : decode cX12_promote 25 = .ok (.iconst 1, 1) := by decide +kernel
theorem dX12_promote_26 : decode cX12_promote 26 = .ok (.if_icmp .ne 12, 3) := by decide +kernel
theorem dX12_promote_29 : decode cX12_promote 29 = .ok (.aload_n 0, 1) := by decide +kernel
theorem dX12_promote_30 : decode cX12_promote 30 = .ok (.getfield 188, 3) := by decide +kernel
theorem dX12_promote_33 : decode cX12_promote 33 = .ok (.iload_n 3, 1) := by decide +kernel
theorem dX12_promote_34 : decode cX12_promote 34 = .ok (.baload, 1) := by decide +kernel
theorem dX12_promote_35 : decode cX12_promote 35 = .ok (.ifCond .ne 9, 3) := by decide +kernel
theorem dX12_promote_38 : decode cX12_promote 38 = .ok (.iinc 3 1, 3) := by decide +kernel
theorem dX12_promote_41 : decode cX12_promote 41 = .ok (.goto (-34), 3) := by decide +kernel
theorem dX12_promote_44 : decode cX12_promote 44 = .ok (.iload_n 3, 1) := by decide +kernel
theorem dX12_promote_45 : decode cX12_promote 45 = .ok (.aload_n 0, 1) := by decide +kernel
theorem dX12_promote_46 : decode cX12_promote 46 = .ok (.getfield 321, 3) := by decide +kernel
theorem dX12_promote_49 : decode cX12_promote 49 = .ok (.if_icmp .ne 5, 3) := by decide +kernel
theorem dX12_promote_52 : decode cX12_promote 52 = .ok (.iconst 0, 1) := by decide +kernel
theorem dX12_promote_53 : decode cX12_promote 53 = .ok (.ireturn, 1) := by decide +kernel
theorem dX12_promote_54 : decode cX12_promote 54 = .ok (.aload_n 0, 1) := by decide +kernel
theorem dX12_promote_55 : decode cX12_promote 55 = .ok (.getfield 179, 3) := by decide +kernel
theorem dX12_promote_58 : decode cX12_promote 58 = .ok (.iload_n 2, 1) := by decide +kernel
theorem dX12_promote_59 : decode cX12_promote 59 = .ok (.iaload, 1) := by decide +kernel
theorem dX12_promote_60 : decode cX12_promote 60 = .ok (.istore 4, 2) := by decide +kernel
theorem dX12_promote_62 : decode cX12_promote 62 = .ok (.aload_n 0, 1) := by decide +kernel
theorem dX12_promote_63 : decode cX12_promote 63 = .ok (.getfield 188, 3) := by decide +kernel
theorem dX12_promote_66 : decode cX12_promote 66 = .ok (.iload 4, 2) := by decide +kernel
theorem dX12_promote_68 : decode cX12_promote 68 = .ok (.baload, 1) := by decide +kernel
theorem dX12_promote_69 : decode cX12_promote 69 = .ok (.ifCond .eq 12, 3) := by decide +kernel
theorem dX12_promote_72 : decode cX12_promote 72 = .ok (.aload_n 0, 1) := by decide +kernel
theorem dX12_promote_73 : decode cX12_promote 73 = .ok (.getfield 182, 3) := by decide +kernel
theorem dX12_promote_76 : decode cX12_promote 76 = .ok (.iload_n 2, 1) := by decide +kernel
theorem dX12_promote_77 : decode cX12_promote 77 = .ok (.iaload, 1) := by decide +kernel
theorem dX12_promote_78 : decode cX12_promote 78 = .ok (.goto 16, 3) := by decide +kernel
theorem dX12_promote_81 : decode cX12_promote 81 = .ok (.aload_n 0, 1) := by decide +kernel
theorem dX12_promote_82 : decode cX12_promote 82 = .ok (.getfield 182, 3) := by decide +kernel
theorem dX12_promote_85 : decode cX12_promote 85 = .ok (.iload_n 2, 1) := by decide +kernel
theorem dX12_promote_86 : decode cX12_promote 86 = .ok (.iaload, 1) := by decide +kernel
theorem dX12_promote_87 : decode cX12_promote 87 = .ok (.iconst 1, 1) := by decide +kernel
theorem dX12_promote_88 : decode cX12_promote 88 = .ok (.iload 4, 2) := by decide +kernel
theorem dX12_promote_90 : decode cX12_promote 90 = .ok (.ishl, 1) := by decide +kernel
theorem dX12_promote_91 : decode cX12_promote 91 = .ok (.iconst (-1), 1) := by decide +kernel
theorem dX12_promote_92 : decode cX12_promote 92 = .ok (.ixor, 1) := by decide +kernel
theorem dX12_promote_93 : decode cX12_promote 93 = .ok (.iand, 1) := by decide +kernel
theorem dX12_promote_94 : decode cX12_promote 94 = .ok (.istore 5, 2) := by decide +kernel
theorem dX12_promote_96 : decode cX12_promote 96 = .ok (.aload_n 0, 1) := by decide +kernel
theorem dX12_promote_97 : decode cX12_promote 97 = .ok (.iload_n 1, 1) := by decide +kernel
theorem dX12_promote_98 : decode cX12_promote 98 = .ok (.aload_n 0, 1) := by decide +kernel
theorem dX12_promote_99 : decode cX12_promote 99 = .ok (.getfield 176, 3) := by decide +kernel
theorem dX12_promote_102 : decode cX12_promote 102 = .ok (.iload_n 2, 1) := by decide +kernel
theorem dX12_promote_103 : decode cX12_promote 103 = .ok (.iaload, 1) := by decide +kernel
theorem dX12_promote_104 : decode cX12_promote 104 = .ok (.iconst 1, 1) := by decide +kernel
theorem dX12_promote_105 : decode cX12_promote 105 = .ok (.iadd, 1) := by decide +kernel
theorem dX12_promote_106 : decode cX12_promote 106 = .ok (.iload_n 3, 1) := by decide +kernel
theorem dX12_promote_107 : decode cX12_promote 107 = .ok (.iload 5, 2) := by decide +kernel
theorem dX12_promote_109 : decode cX12_promote 109 = .ok (.invokevirtual 675, 3) := by decide +kernel
theorem dX12_promote_112 : decode cX12_promote 112 = .ok (.istore 6, 2) := by decide +kernel
theorem dX12_promote_114 : decode cX12_promote 114 = .ok (.iconst 1, 1) := by decide +kernel
theorem dX12_promote_115 : decode cX12_promote 115 = .ok (.ireturn, 1) := by decide +kernel
theorem dX12_heard_0 : decode cX12_heard 0 = .ok (.aload_n 0, 1) := by decide +kernel
theorem dX12_heard_1 : decode cX12_heard 1 = .ok (.getfield 188, 3) := by decide +kernel
theorem dX12_heard_4 : decode cX12_heard 4 = .ok (.iload_n 1, 1) := by decide +kernel
theorem dX12_heard_5 : decode cX12_heard 5 = .ok (.iconst 1, 1) := by decide +kernel
theorem dX12_heard_6 : decode cX12_heard 6 = .ok (.bastore, 1) := by decide +kernel
theorem dX12_heard_7 : decode cX12_heard 7 = .ok (.aload_n 0, 1) := by decide +kernel
theorem dX12_heard_8 : decode cX12_heard 8 = .ok (.getfield 191, 3) := by decide +kernel
theorem dX12_heard_11 : decode cX12_heard 11 = .ok (.iload_n 1, 1) := by decide +kernel
theorem dX12_heard_12 : decode cX12_heard 12 = .ok (.aload_n 0, 1) := by decide +kernel
theorem dX12_heard_13 : decode cX12_heard 13 = .ok (.getfield 330, 3) := by decide +kernel
theorem dX12_heard_16 : decode cX12_heard 16 = .ok (.iastore, 1) := by decide +kernel
theorem dX12_heard_17 : decode cX12_heard 17 = .ok (.iconst 0, 1) := by decide +kernel
theorem dX12_heard_18 : decode cX12_heard 18 = .ok (.istore_n 3, 1) := by decide +kernel
theorem dX12_heard_19 : decode cX12_heard 19 = .ok (.iconst 0, 1) := by decide +kernel
theorem dX12_heard_20 : decode cX12_heard 20 = .ok (.istore 4, 2) := by decide +kernel
theorem dX12_heard_22 : decode cX12_heard 22 = .ok (.iload 4, 2) := by decide +kernel
theorem dX12_heard_24 : decode cX12_heard 24 = .ok (.aload_n 0, 1) := by decide +kernel
theorem dX12_heard_25 : decode cX12_heard 25 = .ok (.getfield 327, 3) := by decide +kernel
theorem dX12_heard_28 : decode cX12_heard 28 = .ok (.if_icmp .ge 74, 3) := by decide +kernel
theorem dX12_heard_31 : decode cX12_heard 31 = .ok (.aload_n 0, 1) := by decide +kernel
theorem dX12_heard_32 : decode cX12_heard 32 = .ok (.getfield 77, 3) := by decide +kernel
theorem dX12_heard_35 : decode cX12_heard 35 = .ok (.aload_n 0, 1) := by decide +kernel
theorem dX12_heard_36 : decode cX12_heard 36 = .ok (.getfield 321, 3) := by decide +kernel
theorem dX12_heard_39 : decode cX12_heard 39 = .ok (.baload, 1) := by decide +kernel
theorem dX12_heard_40 : decode cX12_heard 40 = .ok (.ifCond .eq 62, 3) := by decide +kernel
theorem dX12_heard_43 : decode cX12_heard 43 = .ok (.bipush 20, 2) := by decide +kernel
theorem dX12_heard_45 : decode cX12_heard 45 = .ok (.iload 4, 2) := by decide +kernel
theorem dX12_heard_47 : decode cX12_heard 47 = .ok (.iadd, 1) := by decide +kernel
theorem dX12_heard_48 : decode cX12_heard 48 = .ok (.istore 5, 2) := by decide +kernel
theorem dX12_heard_50 : decode cX12_heard 50 = .ok (.aload_n 0, 1) := by decide +kernel
theorem dX12_heard_51 : decode cX12_heard 51 = .ok (.getfield 188, 3) := by decide +kernel
theorem dX12_heard_54 : decode cX12_heard 54 = .ok (.aload_n 0, 1) := by decide +kernel
theorem dX12_heard_55 : decode cX12_heard 55 = .ok (.getfield 179, 3) := by decide +kernel
theorem dX12_heard_58 : decode cX12_heard 58 = .ok (.iload 5, 2) := by decide +kernel
theorem dX12_heard_60 : decode cX12_heard 60 = .ok (.iaload, 1) := by decide +kernel
theorem dX12_heard_61 : decode cX12_heard 61 = .ok (.baload, 1) := by decide +kernel
theorem dX12_heard_62 : decode cX12_heard 62 = .ok (.ifCond .ne 34, 3) := by decide +kernel
theorem dX12_heard_65 : decode cX12_heard 65 = .ok (.aload_n 0, 1) := by decide +kernel
theorem dX12_heard_66 : decode cX12_heard 66 = .ok (.getfield 182, 3) := by decide +kernel
theorem dX12_heard_69 : decode cX12_heard 69 = .ok (.iload 5, 2) := by decide +kernel
theorem dX12_heard_71 : decode cX12_heard 71 = .ok (.iaload, 1) := by decide +kernel
theorem dX12_heard_72 : decode cX12_heard 72 = .ok (.iload_n 1, 1) := by decide +kernel
theorem dX12_heard_73 : decode cX12_heard 73 = .ok (.ishr, 1) := by decide +kernel
theorem dX12_heard_74 : decode cX12_heard 74 = .ok (.iconst 1, 1) := by decide +kernel
theorem dX12_heard_75 : decode cX12_heard 75 = .ok (.iand, 1) := by decide +kernel
theorem dX12_heard_76 : decode cX12_heard 76 = .ok (.iconst 1, 1) := by decide +kernel
theorem dX12_heard_77 : decode cX12_heard 77 = .ok (.if_icmp .ne 19, 3) := by decide +kernel
theorem dX12_heard_80 : decode cX12_heard 80 = .ok (.aload_n 0, 1) := by decide +kernel
theorem dX12_heard_81 : decode cX12_heard 81 = .ok (.iload 4, 2) := by decide +kernel
theorem dX12_heard_83 : decode cX12_heard 83 = .ok (.invokevirtual 678, 3) := by decide +kernel
theorem dX12_heard_86 : decode cX12_heard 86 = .ok (.ifCond .eq 10, 3) := by decide +kernel
theorem dX12_heard_89 : decode cX12_heard 89 = .ok (.iload_n 3, 1) := by decide +kernel
theorem dX12_heard_90 : decode cX12_heard 90 = .ok (.iconst 1, 1) := by decide +kernel
theorem dX12_heard_91 : decode cX12_heard 91 = .ok (.iload 4, 2) := by decide +kernel
theorem dX12_heard_93 : decode cX12_heard 93 = .ok (.ishl, 1) := by decide +kernel
theorem dX12_heard_94 : decode cX12_heard 94 = .ok (.ior, 1) := by decide +kernel
theorem dX12_heard_95 : decode cX12_heard 95 = .ok (.istore_n 3, 1) := by decide +kernel
theorem dX12_heard_96 : decode cX12_heard 96 = .ok (.iinc 4 1, 3) := by decide +kernel
theorem dX12_heard_99 : decode cX12_heard 99 = .ok (.goto (-77), 3) := by decide +kernel
theorem dX12_heard_102 : decode cX12_heard 102 = .ok (.iconst 0, 1) := by decide +kernel
theorem dX12_heard_103 : decode cX12_heard 103 = .ok (.istore 4, 2) := by decide +kernel
theorem dX12_heard_105 : decode cX12_heard 105 = .ok (.iload 4, 2) := by decide +kernel
theorem dX12_heard_107 : decode cX12_heard 107 = .ok (.aload_n 0, 1) := by decide +kernel
theorem dX12_heard_108 : decode cX12_heard 108 = .ok (.getfield 327, 3) := by decide +kernel
theorem dX12_heard_111 : decode cX12_heard 111 = .ok (.if_icmp .ge 48, 3) := by decide +kernel
theorem dX12_heard_114 : decode cX12_heard 114 = .ok (.aload_n 0, 1) := by decide +kernel
theorem dX12_heard_115 : decode cX12_heard 115 = .ok (.getfield 77, 3) := by decide +kernel
theorem dX12_heard_118 : decode cX12_heard 118 = .ok (.aload_n 0, 1) := by decide +kernel
theorem dX12_heard_119 : decode cX12_heard 119 = .ok (.getfield 321, 3) := by decide +kernel
theorem dX12_heard_122 : decode cX12_heard 122 = .ok (.baload, 1) := by decide +kernel
theorem dX12_heard_123 : decode cX12_heard 123 = .ok (.ifCond .eq 36, 3) := by decide +kernel
theorem dX12_heard_126 : decode cX12_heard 126 = .ok (.aload_n 0, 1) := by decide +kernel
theorem dX12_heard_127 : decode cX12_heard 127 = .ok (.iload_n 1, 1) := by decide +kernel
theorem dX12_heard_128 : decode cX12_heard 128 = .ok (.iload 4, 2) := by decide +kernel
theorem dX12_heard_130 : decode cX12_heard 130 = .ok (.invokevirtual 352, 3) := by decide +kernel
theorem dX12_heard_133 : decode cX12_heard 133 = .ok (.ifCond .eq 20, 3) := by decide +kernel
theorem dX12_heard_136 : decode cX12_heard 136 = .ok (.iload_n 3, 1) := by decide +kernel
theorem dX12_heard_137 : decode cX12_heard 137 = .ok (.iload 4, 2) := by decide +kernel
theorem dX12_heard_139 : decode cX12_heard 139 = .ok (.ishr, 1) := by decide +kernel
theorem dX12_heard_140 : decode cX12_heard 140 = .ok (.iconst 1, 1) := by decide +kernel
theorem dX12_heard_141 : decode cX12_heard 141 = .ok (.iand, 1) := by decide +kernel
theorem dX12_heard_142 : decode cX12_heard 142 = .ok (.ifCond .ne 11, 3) := by decide +kernel
theorem dX12_heard_145 : decode cX12_heard 145 = .ok (.aload_n 0, 1) := by decide +kernel
theorem dX12_heard_146 : decode cX12_heard 146 = .ok (.iload_n 1, 1) := by decide +kernel
theorem dX12_heard_147 : decode cX12_heard 147 = .ok (.iload 4, 2) := by decide +kernel
theorem dX12_heard_149 : decode cX12_heard 149 = .ok (.iload_n 2, 1) := by decide +kernel
theorem dX12_heard_150 : decode cX12_heard 150 = .ok (.invokevirtual 681, 3) := by decide +kernel
theorem dX12_heard_153 : decode cX12_heard 153 = .ok (.iinc 4 1, 3) := by decide +kernel
theorem dX12_heard_156 : decode cX12_heard 156 = .ok (.goto (-51), 3) := by decide +kernel
theorem dX12_heard_159 : decode cX12_heard 159 = .ok (.return_, 1) := by decide +kernel
theorem dX12_heardOfShard_0 : decode cX12_heardOfShard 0 = .ok (.bipush 20, 2) := by decide +kernel
theorem dX12_heardOfShard_2 : decode cX12_heardOfShard 2 = .ok (.iload_n 2, 1) := by decide +kernel
theorem dX12_heardOfShard_3 : decode cX12_heardOfShard 3 = .ok (.iadd, 1) := by decide +kernel
theorem dX12_heardOfShard_4 : decode cX12_heardOfShard 4 = .ok (.istore 4, 2) := by decide +kernel
theorem dX12_heardOfShard_6 : decode cX12_heardOfShard 6 = .ok (.aload_n 0, 1) := by decide +kernel
theorem dX12_heardOfShard_7 : decode cX12_heardOfShard 7 = .ok (.getfield 179, 3) := by decide +kernel
theorem dX12_heardOfShard_10 : decode cX12_heardOfShard 10 = .ok (.iload 4, 2) := by decide +kernel
theorem dX12_heardOfShard_12 : decode cX12_heardOfShard 12 = .ok (.iaload, 1) := by decide +kernel
theorem dX12_heardOfShard_13 : decode cX12_heardOfShard 13 = .ok (.iload_n 1, 1) := by decide +kernel
theorem dX12_heardOfShard_14 : decode cX12_heardOfShard 14 = .ok (.if_icmp .ne 7, 3) := by decide +kernel
theorem dX12_heardOfShard_17 : decode cX12_heardOfShard 17 = .ok (.iconst 1, 1) := by decide +kernel
theorem dX12_heardOfShard_18 : decode cX12_heardOfShard 18 = .ok (.goto 4, 3) := by decide +kernel
theorem dX12_heardOfShard_21 : decode cX12_heardOfShard 21 = .ok (.iconst 0, 1) := by decide +kernel
theorem dX12_heardOfShard_22 : decode cX12_heardOfShard 22 = .ok (.istore 5, 2) := by decide +kernel
theorem dX12_heardOfShard_24 : decode cX12_heardOfShard 24 = .ok (.iload_n 3, 1) := by decide +kernel
theorem dX12_heardOfShard_25 : decode cX12_heardOfShard 25 = .ok (.ifCond .eq 27, 3) := by decide +kernel
theorem dX12_heardOfShard_28 : decode cX12_heardOfShard 28 = .ok (.iload 5, 2) := by decide +kernel
theorem dX12_heardOfShard_30 : decode cX12_heardOfShard 30 = .ok (.ifCond .eq 13, 3) := by decide +kernel
theorem dX12_heardOfShard_33 : decode cX12_heardOfShard 33 = .ok (.aload_n 0, 1) := by decide +kernel
theorem dX12_heardOfShard_34 : decode cX12_heardOfShard 34 = .ok (.iload_n 2, 1) := by decide +kernel
theorem dX12_heardOfShard_35 : decode cX12_heardOfShard 35 = .ok (.invokevirtual 678, 3) := by decide +kernel
theorem dX12_heardOfShard_38 : decode cX12_heardOfShard 38 = .ok (.istore 6, 2) := by decide +kernel
theorem dX12_heardOfShard_40 : decode cX12_heardOfShard 40 = .ok (.goto 75, 3) := by decide +kernel
theorem dX12_heardOfShard_43 : decode cX12_heardOfShard 43 = .ok (.aload_n 0, 1) := by decide +kernel
theorem dX12_heardOfShard_44 : decode cX12_heardOfShard 44 = .ok (.iload_n 1, 1) := by decide +kernel
theorem dX12_heardOfShard_45 : decode cX12_heardOfShard 45 = .ok (.iload_n 2, 1) := by decide +kernel
theorem dX12_heardOfShard_46 : decode cX12_heardOfShard 46 = .ok (.invokevirtual 672, 3) := by decide +kernel
theorem dX12_heardOfShard_49 : decode cX12_heardOfShard 49 = .ok (.goto 66, 3) := by decide +kernel
theorem dX12_heardOfShard_52 : decode cX12_heardOfShard 52 = .ok (.aload_n 0, 1) := by decide +kernel
theorem dX12_heardOfShard_53 : decode cX12_heardOfShard 53 = .ok (.getfield 222, 3) := by decide +kernel
theorem dX12_heardOfShard_56 : decode cX12_heardOfShard 56 = .ok (.bipush 6, 2) := by decide +kernel
theorem dX12_heardOfShard_58 : decode cX12_heardOfShard 58 = .ok (.iconst 2, 1) := by decide +kernel
theorem dX12_heardOfShard_59 : decode cX12_heardOfShard 59 = .ok (.iload_n 2, 1) := by decide +kernel
theorem dX12_heardOfShard_60 : decode cX12_heardOfShard 60 = .ok (.imul, 1) := by decide +kernel
theorem dX12_heardOfShard_61 : decode cX12_heardOfShard 61 = .ok (.iadd, 1) := by decide +kernel
theorem dX12_heardOfShard_62 : decode cX12_heardOfShard 62 = .ok (.iaload, 1) := by decide +kernel
theorem dX12_heardOfShard_63 : decode cX12_heardOfShard 63 = .ok (.aload_n 0, 1) := by decide +kernel
theorem dX12_heardOfShard_64 : decode cX12_heardOfShard 64 = .ok (.getfield 185, 3) := by decide +kernel
theorem dX12_heardOfShard_67 : decode cX12_heardOfShard 67 = .ok (.iload 4, 2) := by decide +kernel
theorem dX12_heardOfShard_69 : decode cX12_heardOfShard 69 = .ok (.iaload, 1) := by decide +kernel
theorem dX12_heardOfShard_70 : decode cX12_heardOfShard 70 = .ok (.if_icmp .ge 12, 3) := by decide +kernel
theorem dX12_heardOfShard_73 : decode cX12_heardOfShard 73 = .ok (.aload_n 0, 1) := by decide +kernel
theorem dX12_heardOfShard_74 : decode cX12_heardOfShard 74 = .ok (.iload_n 1, 1) := by decide +kernel
theorem dX12_heardOfShard_75 : decode cX12_heardOfShard 75 = .ok (.iload_n 2, 1) := by decide +kernel
theorem dX12_heardOfShard_76 : decode cX12_heardOfShard 76 = .ok (.invokevirtual 672, 3) := by decide +kernel
theorem dX12_heardOfShard_79 : decode cX12_heardOfShard 79 = .ok (.goto 36, 3) := by decide +kernel
theorem dX12_heardOfShard_82 : decode cX12_heardOfShard 82 = .ok (.iload 5, 2) := by decide +kernel
theorem dX12_heardOfShard_84 : decode cX12_heardOfShard 84 = .ok (.ifCond .eq 31, 3) := by decide +kernel
theorem dX12_heardOfShard_87 : decode cX12_heardOfShard 87 = .ok (.aload_n 0, 1) := by decide +kernel
theorem dX12_heardOfShard_88 : decode cX12_heardOfShard 88 = .ok (.getfield 222, 3) := by decide +kernel
theorem dX12_heardOfShard_91 : decode cX12_heardOfShard 91 = .ok (.bipush 7, 2) := by decide +kernel
theorem dX12_heardOfShard_93 : decode cX12_heardOfShard 93 = .ok (.iconst 2, 1) := by decide +kernel
theorem dX12_heardOfShard_94 : decode cX12_heardOfShard 94 = .ok (.iload_n 2, 1) := by decide +kernel
theorem dX12_heardOfShard_95 : decode cX12_heardOfShard 95 = .ok (.imul, 1) := by decide +kernel
theorem dX12_heardOfShard_96 : decode cX12_heardOfShard 96 = .ok (.iadd, 1) := by decide +kernel
theorem dX12_heardOfShard_97 : decode cX12_heardOfShard 97 = .ok (.iaload, 1) := by decide +kernel
theorem dX12_heardOfShard_98 : decode cX12_heardOfShard 98 = .ok (.aload_n 0, 1) := by decide +kernel
theorem dX12_heardOfShard_99 : decode cX12_heardOfShard 99 = .ok (.getfield 176, 3) := by decide +kernel
theorem dX12_heardOfShard_102 : decode cX12_heardOfShard 102 = .ok (.iload 4, 2) := by decide +kernel
theorem dX12_heardOfShard_104 : decode cX12_heardOfShard 104 = .ok (.iaload, 1) := by decide +kernel
theorem dX12_heardOfShard_105 : decode cX12_heardOfShard 105 = .ok (.if_icmp .eq 10, 3) := by decide +kernel
theorem dX12_heardOfShard_108 : decode cX12_heardOfShard 108 = .ok (.aload_n 0, 1) := by decide +kernel
theorem dX12_heardOfShard_109 : decode cX12_heardOfShard 109 = .ok (.iload_n 2, 1) := by decide +kernel
theorem dX12_heardOfShard_110 : decode cX12_heardOfShard 110 = .ok (.invokevirtual 678, 3) := by decide +kernel
theorem dX12_heardOfShard_113 : decode cX12_heardOfShard 113 = .ok (.istore 6, 2) := by decide +kernel
theorem dX12_heardOfShard_115 : decode cX12_heardOfShard 115 = .ok (.return_, 1) := by decide +kernel
theorem dX12_add_0 : decode cX12_add 0 = .ok (.bipush 20, 2) := by decide +kernel
theorem dX12_add_2 : decode cX12_add 2 = .ok (.aload_n 0, 1) := by decide +kernel
theorem dX12_add_3 : decode cX12_add 3 = .ok (.getfield 222, 3) := by decide +kernel
theorem dX12_add_6 : decode cX12_add 6 = .ok (.iconst 1, 1) := by decide +kernel
theorem dX12_add_7 : decode cX12_add 7 = .ok (.iaload, 1) := by decide +kernel
theorem dX12_add_8 : decode cX12_add 8 = .ok (.iadd, 1) := by decide +kernel
theorem dX12_add_9 : decode cX12_add 9 = .ok (.istore_n 2, 1) := by decide +kernel
theorem dX12_add_10 : decode cX12_add 10 = .ok (.aload_n 0, 1) := by decide +kernel
theorem dX12_add_11 : decode cX12_add 11 = .ok (.getfield 176, 3) := by decide +kernel
theorem dX12_add_14 : decode cX12_add 14 = .ok (.iload_n 2, 1) := by decide +kernel
theorem dX12_add_15 : decode cX12_add 15 = .ok (.iaload, 1) := by decide +kernel
theorem dX12_add_16 : decode cX12_add 16 = .ok (.aload_n 0, 1) := by decide +kernel
theorem dX12_add_17 : decode cX12_add 17 = .ok (.getfield 222, 3) := by decide +kernel
theorem dX12_add_20 : decode cX12_add 20 = .ok (.iconst 2, 1) := by decide +kernel
theorem dX12_add_21 : decode cX12_add 21 = .ok (.iaload, 1) := by decide +kernel
theorem dX12_add_22 : decode cX12_add 22 = .ok (.if_icmp .ne 13, 3) := by decide +kernel
theorem dX12_add_25 : decode cX12_add 25 = .ok (.aload_n 0, 1) := by decide +kernel
theorem dX12_add_26 : decode cX12_add 26 = .ok (.getfield 179, 3) := by decide +kernel
theorem dX12_add_29 : decode cX12_add 29 = .ok (.iload_n 2, 1) := by decide +kernel
theorem dX12_add_30 : decode cX12_add 30 = .ok (.iaload, 1) := by decide +kernel
theorem dX12_add_31 : decode cX12_add 31 = .ok (.iload_n 1, 1) := by decide +kernel
theorem dX12_add_32 : decode cX12_add 32 = .ok (.if_icmp .eq 4, 3) := by decide +kernel
theorem dX12_add_35 : decode cX12_add 35 = .ok (.return_, 1) := by decide +kernel
theorem dX12_add_36 : decode cX12_add 36 = .ok (.iconst 1, 1) := by decide +kernel
theorem dX12_add_37 : decode cX12_add 37 = .ok (.aload_n 0, 1) := by decide +kernel
theorem dX12_add_38 : decode cX12_add 38 = .ok (.getfield 222, 3) := by decide +kernel
theorem dX12_add_41 : decode cX12_add 41 = .ok (.iconst 3, 1) := by decide +kernel
theorem dX12_add_42 : decode cX12_add 42 = .ok (.iaload, 1) := by decide +kernel
theorem dX12_add_43 : decode cX12_add 43 = .ok (.ishl, 1) := by decide +kernel
theorem dX12_add_44 : decode cX12_add 44 = .ok (.istore_n 3, 1) := by decide +kernel
theorem dX12_add_45 : decode cX12_add 45 = .ok (.aload_n 0, 1) := by decide +kernel
theorem dX12_add_46 : decode cX12_add 46 = .ok (.getfield 182, 3) := by decide +kernel
theorem dX12_add_49 : decode cX12_add 49 = .ok (.iload_n 2, 1) := by decide +kernel
theorem dX12_add_50 : decode cX12_add 50 = .ok (.iaload, 1) := by decide +kernel
theorem dX12_add_51 : decode cX12_add 51 = .ok (.iload_n 3, 1) := by decide +kernel
theorem dX12_add_52 : decode cX12_add 52 = .ok (.iand, 1) := by decide +kernel
theorem dX12_add_53 : decode cX12_add 53 = .ok (.ifCond .ne 18, 3) := by decide +kernel
theorem dX12_add_56 : decode cX12_add 56 = .ok (.aload_n 0, 1) := by decide +kernel
theorem dX12_add_57 : decode cX12_add 57 = .ok (.getfield 222, 3) := by decide +kernel
theorem dX12_add_60 : decode cX12_add 60 = .ok (.iconst 4, 1) := by decide +kernel
theorem dX12_add_61 : decode cX12_add 61 = .ok (.iaload, 1) := by decide +kernel
theorem dX12_add_62 : decode cX12_add 62 = .ok (.aload_n 0, 1) := by decide +kernel
theorem dX12_add_63 : decode cX12_add 63 = .ok (.getfield 185, 3) := by decide +kernel
theorem dX12_add_66 : decode cX12_add 66 = .ok (.iload_n 2, 1) := by decide +kernel
theorem dX12_add_67 : decode cX12_add 67 = .ok (.iaload, 1) := by decide +kernel
theorem dX12_add_68 : decode cX12_add 68 = .ok (.if_icmp .eq 17, 3) := by decide +kernel
theorem dX12_add_71 : decode cX12_add 71 = .ok (.aload_n 0, 1) := by decide +kernel
theorem dX12_add_72 : decode cX12_add 72 = .ok (.iload_n 1, 1) := by decide +kernel
theorem dX12_add_73 : decode cX12_add 73 = .ok (.aload_n 0, 1) := by decide +kernel
theorem dX12_add_74 : decode cX12_add 74 = .ok (.getfield 222, 3) := by decide +kernel
theorem dX12_add_77 : decode cX12_add 77 = .ok (.iconst 1, 1) := by decide +kernel
theorem dX12_add_78 : decode cX12_add 78 = .ok (.iaload, 1) := by decide +kernel
theorem dX12_add_79 : decode cX12_add 79 = .ok (.invokevirtual 672, 3) := by decide +kernel
theorem dX12_add_82 : decode cX12_add 82 = .ok (.goto 30, 3) := by decide +kernel
theorem dX12_add_85 : decode cX12_add 85 = .ok (.aload_n 0, 1) := by decide +kernel
theorem dX12_add_86 : decode cX12_add 86 = .ok (.aload_n 0, 1) := by decide +kernel
theorem dX12_add_87 : decode cX12_add 87 = .ok (.getfield 222, 3) := by decide +kernel
theorem dX12_add_90 : decode cX12_add 90 = .ok (.iconst 1, 1) := by decide +kernel
theorem dX12_add_91 : decode cX12_add 91 = .ok (.iaload, 1) := by decide +kernel
theorem dX12_add_92 : decode cX12_add 92 = .ok (.aload_n 0, 1) := by decide +kernel
theorem dX12_add_93 : decode cX12_add 93 = .ok (.getfield 176, 3) := by decide +kernel
theorem dX12_add_96 : decode cX12_add 96 = .ok (.iload_n 2, 1) := by decide +kernel
theorem dX12_add_97 : decode cX12_add 97 = .ok (.iaload, 1) := by decide +kernel
theorem dX12_add_98 : decode cX12_add 98 = .ok (.iload_n 1, 1) := by decide +kernel
theorem dX12_add_99 : decode cX12_add 99 = .ok (.aload_n 0, 1) := by decide +kernel
theorem dX12_add_100 : decode cX12_add 100 = .ok (.getfield 182, 3) := by decide +kernel
theorem dX12_add_103 : decode cX12_add 103 = .ok (.iload_n 2, 1) := by decide +kernel
theorem dX12_add_104 : decode cX12_add 104 = .ok (.iaload, 1) := by decide +kernel
theorem dX12_add_105 : decode cX12_add 105 = .ok (.iload_n 3, 1) := by decide +kernel
theorem dX12_add_106 : decode cX12_add 106 = .ok (.ior, 1) := by decide +kernel
theorem dX12_add_107 : decode cX12_add 107 = .ok (.invokevirtual 675, 3) := by decide +kernel
theorem dX12_add_110 : decode cX12_add 110 = .ok (.istore 4, 2) := by decide +kernel
theorem dX12_add_112 : decode cX12_add 112 = .ok (.return_, 1) := by decide +kernel
theorem dX12_failed_0 : decode cX12_failed 0 = .ok (.aload_n 0, 1) := by decide +kernel
theorem dX12_failed_1 : decode cX12_failed 1 = .ok (.getfield 222, 3) := by decide +kernel
theorem dX12_failed_4 : decode cX12_failed 4 = .ok (.iconst 1, 1) := by decide +kernel
theorem dX12_failed_5 : decode cX12_failed 5 = .ok (.iaload, 1) := by decide +kernel
theorem dX12_failed_6 : decode cX12_failed 6 = .ok (.istore_n 2, 1) := by decide +kernel
theorem dX12_failed_7 : decode cX12_failed 7 = .ok (.bipush 20, 2) := by decide +kernel
theorem dX12_failed_9 : decode cX12_failed 9 = .ok (.iload_n 2, 1) := by decide +kernel
theorem dX12_failed_10 : decode cX12_failed 10 = .ok (.iadd, 1) := by decide +kernel
theorem dX12_failed_11 : decode cX12_failed 11 = .ok (.istore_n 3, 1) := by decide +kernel
theorem dX12_failed_12 : decode cX12_failed 12 = .ok (.aload_n 0, 1) := by decide +kernel
theorem dX12_failed_13 : decode cX12_failed 13 = .ok (.getfield 222, 3) := by decide +kernel
theorem dX12_failed_16 : decode cX12_failed 16 = .ok (.iconst 3, 1) := by decide +kernel
theorem dX12_failed_17 : decode cX12_failed 17 = .ok (.iaload, 1) := by decide +kernel
theorem dX12_failed_18 : decode cX12_failed 18 = .ok (.istore 4, 2) := by decide +kernel
theorem dX12_failed_20 : decode cX12_failed 20 = .ok (.aload_n 0, 1) := by decide +kernel
theorem dX12_failed_21 : decode cX12_failed 21 = .ok (.getfield 176, 3) := by decide +kernel
theorem dX12_failed_24 : decode cX12_failed 24 = .ok (.iload_n 3, 1) := by decide +kernel
theorem dX12_failed_25 : decode cX12_failed 25 = .ok (.iaload, 1) := by decide +kernel
theorem dX12_failed_26 : decode cX12_failed 26 = .ok (.aload_n 0, 1) := by decide +kernel
theorem dX12_failed_27 : decode cX12_failed 27 = .ok (.getfield 222, 3) := by decide +kernel
theorem dX12_failed_30 : decode cX12_failed 30 = .ok (.iconst 2, 1) := by decide +kernel
theorem dX12_failed_31 : decode cX12_failed 31 = .ok (.iaload, 1) := by decide +kernel
theorem dX12_failed_32 : decode cX12_failed 32 = .ok (.if_icmp .ne 13, 3) := by decide +kernel
theorem dX12_failed_35 : decode cX12_failed 35 = .ok (.aload_n 0, 1) := by decide +kernel
theorem dX12_failed_36 : decode cX12_failed 36 = .ok (.getfield 179, 3) := by decide +kernel
theorem dX12_failed_39 : decode cX12_failed 39 = .ok (.iload_n 3, 1) := by decide +kernel
theorem dX12_failed_40 : decode cX12_failed 40 = .ok (.iaload, 1) := by decide +kernel
theorem dX12_failed_41 : decode cX12_failed 41 = .ok (.iload_n 1, 1) := by decide +kernel
theorem dX12_failed_42 : decode cX12_failed 42 = .ok (.if_icmp .eq 4, 3) := by decide +kernel
theorem dX12_failed_45 : decode cX12_failed 45 = .ok (.return_, 1) := by decide +kernel
theorem dX12_failed_46 : decode cX12_failed 46 = .ok (.aload_n 0, 1) := by decide +kernel
theorem dX12_failed_47 : decode cX12_failed 47 = .ok (.getfield 182, 3) := by decide +kernel
theorem dX12_failed_50 : decode cX12_failed 50 = .ok (.iload_n 3, 1) := by decide +kernel
theorem dX12_failed_51 : decode cX12_failed 51 = .ok (.iaload, 1) := by decide +kernel
theorem dX12_failed_52 : decode cX12_failed 52 = .ok (.iload 4, 2) := by decide +kernel
theorem dX12_failed_54 : decode cX12_failed 54 = .ok (.ishr, 1) := by decide +kernel
theorem dX12_failed_55 : decode cX12_failed 55 = .ok (.iconst 1, 1) := by decide +kernel
theorem dX12_failed_56 : decode cX12_failed 56 = .ok (.iand, 1) := by decide +kernel
theorem dX12_failed_57 : decode cX12_failed 57 = .ok (.iconst 1, 1) := by decide +kernel
theorem dX12_failed_58 : decode cX12_failed 58 = .ok (.if_icmp .ne 38, 3) := by decide +kernel
theorem dX12_failed_61 : decode cX12_failed 61 = .ok (.iload 4, 2) := by decide +kernel
theorem dX12_failed_63 : decode cX12_failed 63 = .ok (.iload_n 1, 1) := by decide +kernel
theorem dX12_failed_64 : decode cX12_failed 64 = .ok (.if_icmp .eq 32, 3) := by decide +kernel
theorem dX12_failed_67 : decode cX12_failed 67 = .ok (.aload_n 0, 1) := by decide +kernel
theorem dX12_failed_68 : decode cX12_failed 68 = .ok (.iload_n 2, 1) := by decide +kernel
theorem dX12_failed_69 : decode cX12_failed 69 = .ok (.aload_n 0, 1) := by decide +kernel
theorem dX12_failed_70 : decode cX12_failed 70 = .ok (.getfield 176, 3) := by decide +kernel
theorem dX12_failed_73 : decode cX12_failed 73 = .ok (.iload_n 3, 1) := by decide +kernel
theorem dX12_failed_74 : decode cX12_failed 74 = .ok (.iaload, 1) := by decide +kernel
theorem dX12_failed_75 : decode cX12_failed 75 = .ok (.iload_n 1, 1) := by decide +kernel
theorem dX12_failed_76 : decode cX12_failed 76 = .ok (.aload_n 0, 1) := by decide +kernel
theorem dX12_failed_77 : decode cX12_failed 77 = .ok (.getfield 182, 3) := by decide +kernel
theorem dX12_failed_80 : decode cX12_failed 80 = .ok (.iload_n 3, 1) := by decide +kernel
theorem dX12_failed_81 : decode cX12_failed 81 = .ok (.iaload, 1) := by decide +kernel
theorem dX12_failed_82 : decode cX12_failed 82 = .ok (.iconst 1, 1) := by decide +kernel
theorem dX12_failed_83 : decode cX12_failed 83 = .ok (.iload 4, 2) := by decide +kernel
theorem dX12_failed_85 : decode cX12_failed 85 = .ok (.ishl, 1) := by decide +kernel
theorem dX12_failed_86 : decode cX12_failed 86 = .ok (.iconst (-1), 1) := by decide +kernel
theorem dX12_failed_87 : decode cX12_failed 87 = .ok (.ixor, 1) := by decide +kernel
theorem dX12_failed_88 : decode cX12_failed 88 = .ok (.iand, 1) := by decide +kernel
theorem dX12_failed_89 : decode cX12_failed 89 = .ok (.invokevirtual 675, 3) := by decide +kernel
theorem dX12_failed_92 : decode cX12_failed 92 = .ok (.ifCond .ne 4, 3) := by decide +kernel
theorem dX12_failed_95 : decode cX12_failed 95 = .ok (.return_, 1) := by decide +kernel
theorem dX12_failed_96 : decode cX12_failed 96 = .ok (.aload_n 0, 1) := by decide +kernel
theorem dX12_failed_97 : decode cX12_failed 97 = .ok (.getfield 219, 3) := by decide +kernel
theorem dX12_failed_100 : decode cX12_failed 100 = .ok (.iconst 0, 1) := by decide +kernel
theorem dX12_failed_101 : decode cX12_failed 101 = .ok (.bipush 13, 2) := by decide +kernel
theorem dX12_failed_103 : decode cX12_failed 103 = .ok (.iastore, 1) := by decide +kernel
theorem dX12_failed_104 : decode cX12_failed 104 = .ok (.aload_n 0, 1) := by decide +kernel
theorem dX12_failed_105 : decode cX12_failed 105 = .ok (.getfield 219, 3) := by decide +kernel
theorem dX12_failed_108 : decode cX12_failed 108 = .ok (.iconst 1, 1) := by decide +kernel
theorem dX12_failed_109 : decode cX12_failed 109 = .ok (.iload_n 2, 1) := by decide +kernel
theorem dX12_failed_110 : decode cX12_failed 110 = .ok (.iastore, 1) := by decide +kernel
theorem dX12_failed_111 : decode cX12_failed 111 = .ok (.aload_n 0, 1) := by decide +kernel
theorem dX12_failed_112 : decode cX12_failed 112 = .ok (.getfield 219, 3) := by decide +kernel
theorem dX12_failed_115 : decode cX12_failed 115 = .ok (.iconst 2, 1) := by decide +kernel
theorem dX12_failed_116 : decode cX12_failed 116 = .ok (.aload_n 0, 1) := by decide +kernel
theorem dX12_failed_117 : decode cX12_failed 117 = .ok (.getfield 222, 3) := by decide +kernel
theorem dX12_failed_120 : decode cX12_failed 120 = .ok (.iconst 2, 1) := by decide +kernel
theorem dX12_failed_121 : decode cX12_failed 121 = .ok (.iaload, 1) := by decide +kernel
theorem dX12_failed_122 : decode cX12_failed 122 = .ok (.iastore, 1) := by decide +kernel
theorem dX12_failed_123 : decode cX12_failed 123 = .ok (.aload_n 0, 1) := by decide +kernel
theorem dX12_failed_124 : decode cX12_failed 124 = .ok (.getfield 219, 3) := by decide +kernel
theorem dX12_failed_127 : decode cX12_failed 127 = .ok (.iconst 3, 1) := by decide +kernel
theorem dX12_failed_128 : decode cX12_failed 128 = .ok (.iload 4, 2) := by decide +kernel
theorem dX12_failed_130 : decode cX12_failed 130 = .ok (.iastore, 1) := by decide +kernel
theorem dX12_failed_131 : decode cX12_failed 131 = .ok (.aload_n 0, 1) := by decide +kernel
theorem dX12_failed_132 : decode cX12_failed 132 = .ok (.getfield 219, 3) := by decide +kernel
theorem dX12_failed_135 : decode cX12_failed 135 = .ok (.iconst 4, 1) := by decide +kernel
theorem dX12_failed_136 : decode cX12_failed 136 = .ok (.aload_n 0, 1) := by decide +kernel
theorem dX12_failed_137 : decode cX12_failed 137 = .ok (.getfield 222, 3) := by decide +kernel
theorem dX12_failed_140 : decode cX12_failed 140 = .ok (.iconst 4, 1) := by decide +kernel
theorem dX12_failed_141 : decode cX12_failed 141 = .ok (.iaload, 1) := by decide +kernel
theorem dX12_failed_142 : decode cX12_failed 142 = .ok (.iastore, 1) := by decide +kernel
theorem dX12_failed_143 : decode cX12_failed 143 = .ok (.aload_n 0, 1) := by decide +kernel
theorem dX12_failed_144 : decode cX12_failed 144 = .ok (.aload_n 0, 1) := by decide +kernel
theorem dX12_failed_145 : decode cX12_failed 145 = .ok (.getfield 321, 3) := by decide +kernel
theorem dX12_failed_148 : decode cX12_failed 148 = .ok (.iload_n 1, 1) := by decide +kernel
theorem dX12_failed_149 : decode cX12_failed 149 = .ok (.iconst 5, 1) := by decide +kernel
theorem dX12_failed_150 : decode cX12_failed 150 = .ok (.invokevirtual 446, 3) := by decide +kernel
theorem dX12_failed_153 : decode cX12_failed 153 = .ok (.return_, 1) := by decide +kernel
theorem dX12_route_0 : decode cX12_route 0 = .ok (.aload_n 0, 1) := by decide +kernel
theorem dX12_route_1 : decode cX12_route 1 = .ok (.getfield 219, 3) := by decide +kernel
theorem dX12_route_4 : decode cX12_route 4 = .ok (.iconst 0, 1) := by decide +kernel
theorem dX12_route_5 : decode cX12_route 5 = .ok (.iconst 2, 1) := by decide +kernel
theorem dX12_route_6 : decode cX12_route 6 = .ok (.iastore, 1) := by decide +kernel
theorem dX12_route_7 : decode cX12_route 7 = .ok (.aload_n 0, 1) := by decide +kernel
theorem dX12_route_8 : decode cX12_route 8 = .ok (.getfield 219, 3) := by decide +kernel
theorem dX12_route_11 : decode cX12_route 11 = .ok (.iconst 1, 1) := by decide +kernel
theorem dX12_route_12 : decode cX12_route 12 = .ok (.aload_n 0, 1) := by decide +kernel
theorem dX12_route_13 : decode cX12_route 13 = .ok (.getfield 222, 3) := by decide +kernel
theorem dX12_route_16 : decode cX12_route 16 = .ok (.iconst 1, 1) := by decide +kernel
theorem dX12_route_17 : decode cX12_route 17 = .ok (.iaload, 1) := by decide +kernel
theorem dX12_route_18 : decode cX12_route 18 = .ok (.iastore, 1) := by decide +kernel
theorem dX12_route_19 : decode cX12_route 19 = .ok (.aload_n 0, 1) := by decide +kernel
theorem dX12_route_20 : decode cX12_route 20 = .ok (.getfield 219, 3) := by decide +kernel
theorem dX12_route_23 : decode cX12_route 23 = .ok (.iconst 2, 1) := by decide +kernel
theorem dX12_route_24 : decode cX12_route 24 = .ok (.aload_n 0, 1) := by decide +kernel
theorem dX12_route_25 : decode cX12_route 25 = .ok (.getfield 222, 3) := by decide +kernel
theorem dX12_route_28 : decode cX12_route 28 = .ok (.iconst 2, 1) := by decide +kernel
theorem dX12_route_29 : decode cX12_route 29 = .ok (.iaload, 1) := by decide +kernel
theorem dX12_route_30 : decode cX12_route 30 = .ok (.iastore, 1) := by decide +kernel
theorem dX12_route_31 : decode cX12_route 31 = .ok (.aload_n 0, 1) := by decide +kernel
theorem dX12_route_32 : decode cX12_route 32 = .ok (.getfield 219, 3) := by decide +kernel
theorem dX12_route_35 : decode cX12_route 35 = .ok (.iconst 3, 1) := by decide +kernel
theorem dX12_route_36 : decode cX12_route 36 = .ok (.iconst 0, 1) := by decide +kernel
theorem dX12_route_37 : decode cX12_route 37 = .ok (.iastore, 1) := by decide +kernel
theorem dX12_route_38 : decode cX12_route 38 = .ok (.aload_n 0, 1) := by decide +kernel
theorem dX12_route_39 : decode cX12_route 39 = .ok (.getfield 219, 3) := by decide +kernel
theorem dX12_route_42 : decode cX12_route 42 = .ok (.iconst 4, 1) := by decide +kernel
theorem dX12_route_43 : decode cX12_route 43 = .ok (.iconst 0, 1) := by decide +kernel
theorem dX12_route_44 : decode cX12_route 44 = .ok (.iastore, 1) := by decide +kernel
theorem dX12_route_45 : decode cX12_route 45 = .ok (.aload_n 0, 1) := by decide +kernel
theorem dX12_route_46 : decode cX12_route 46 = .ok (.getfield 219, 3) := by decide +kernel
theorem dX12_route_49 : decode cX12_route 49 = .ok (.iconst 5, 1) := by decide +kernel
theorem dX12_route_50 : decode cX12_route 50 = .ok (.iconst 0, 1) := by decide +kernel
theorem dX12_route_51 : decode cX12_route 51 = .ok (.iastore, 1) := by decide +kernel
theorem dX12_route_52 : decode cX12_route 52 = .ok (.iconst 0, 1) := by decide +kernel
theorem dX12_route_53 : decode cX12_route 53 = .ok (.istore_n 2, 1) := by decide +kernel
theorem dX12_route_54 : decode cX12_route 54 = .ok (.iload_n 2, 1) := by decide +kernel
theorem dX12_route_55 : decode cX12_route 55 = .ok (.aload_n 0, 1) := by decide +kernel
theorem dX12_route_56 : decode cX12_route 56 = .ok (.getfield 327, 3) := by decide +kernel
theorem dX12_route_59 : decode cX12_route 59 = .ok (.if_icmp .ge 69, 3) := by decide +kernel
theorem dX12_route_62 : decode cX12_route 62 = .ok (.aload_n 0, 1) := by decide +kernel
theorem dX12_route_63 : decode cX12_route 63 = .ok (.getfield 219, 3) := by decide +kernel
theorem dX12_route_66 : decode cX12_route 66 = .ok (.bipush 6, 2) := by decide +kernel
theorem dX12_route_68 : decode cX12_route 68 = .ok (.iconst 3, 1) := by decide +kernel
theorem dX12_route_69 : decode cX12_route 69 = .ok (.iload_n 2, 1) := by decide +kernel
theorem dX12_route_70 : decode cX12_route 70 = .ok (.imul, 1) := by decide +kernel
theorem dX12_route_71 : decode cX12_route 71 = .ok (.iadd, 1) := by decide +kernel
theorem dX12_route_72 : decode cX12_route 72 = .ok (.aload_n 0, 1) := by decide +kernel
theorem dX12_route_73 : decode cX12_route 73 = .ok (.getfield 176, 3) := by decide +kernel
theorem dX12_route_76 : decode cX12_route 76 = .ok (.bipush 20, 2) := by decide +kernel
theorem dX12_route_78 : decode cX12_route 78 = .ok (.iload_n 2, 1) := by decide +kernel
theorem dX12_route_79 : decode cX12_route 79 = .ok (.iadd, 1) := by decide +kernel
theorem dX12_route_80 : decode cX12_route 80 = .ok (.iaload, 1) := by decide +kernel
theorem dX12_route_81 : decode cX12_route 81 = .ok (.iastore, 1) := by decide +kernel
theorem dX12_route_82 : decode cX12_route 82 = .ok (.aload_n 0, 1) := by decide +kernel
theorem dX12_route_83 : decode cX12_route 83 = .ok (.getfield 219, 3) := by decide +kernel
theorem dX12_route_86 : decode cX12_route 86 = .ok (.bipush 7, 2) := by decide +kernel
theorem dX12_route_88 : decode cX12_route 88 = .ok (.iconst 3, 1) := by decide +kernel
theorem dX12_route_89 : decode cX12_route 89 = .ok (.iload_n 2, 1) := by decide +kernel
theorem dX12_route_90 : decode cX12_route 90 = .ok (.imul, 1) := by decide +kernel
theorem dX12_route_91 : decode cX12_route 91 = .ok (.iadd, 1) := by decide +kernel
theorem dX12_route_92 : decode cX12_route 92 = .ok (.aload_n 0, 1) := by decide +kernel
theorem dX12_route_93 : decode cX12_route 93 = .ok (.getfield 179, 3) := by decide +kernel
theorem dX12_route_96 : decode cX12_route 96 = .ok (.bipush 20, 2) := by decide +kernel
theorem dX12_route_98 : decode cX12_route 98 = .ok (.iload_n 2, 1) := by decide +kernel
theorem dX12_route_99 : decode cX12_route 99 = .ok (.iadd, 1) := by decide +kernel
theorem dX12_route_100 : decode cX12_route 100 = .ok (.iaload, 1) := by decide +kernel
theorem dX12_route_101 : decode cX12_route 101 = .ok (.iastore, 1) := by decide +kernel
theorem dX12_route_102 : decode cX12_route 102 = .ok (.aload_n 0, 1) := by decide +kernel
theorem dX12_route_103 : decode cX12_route 103 = .ok (.getfield 219, 3) := by decide +kernel
theorem dX12_route_106 : decode cX12_route 106 = .ok (.bipush 8, 2) := by decide +kernel
theorem dX12_route_108 : decode cX12_route 108 = .ok (.iconst 3, 1) := by decide +kernel
theorem dX12_route_109 : decode cX12_route 109 = .ok (.iload_n 2, 1) := by decide +kernel
theorem dX12_route_110 : decode cX12_route 110 = .ok (.imul, 1) := by decide +kernel
theorem dX12_route_111 : decode cX12_route 111 = .ok (.iadd, 1) := by decide +kernel
theorem dX12_route_112 : decode cX12_route 112 = .ok (.aload_n 0, 1) := by decide +kernel
theorem dX12_route_113 : decode cX12_route 113 = .ok (.getfield 182, 3) := by decide +kernel
theorem dX12_route_116 : decode cX12_route 116 = .ok (.bipush 20, 2) := by decide +kernel
theorem dX12_route_118 : decode cX12_route 118 = .ok (.iload_n 2, 1) := by decide +kernel
theorem dX12_route_119 : decode cX12_route 119 = .ok (.iadd, 1) := by decide +kernel
theorem dX12_route_120 : decode cX12_route 120 = .ok (.iaload, 1) := by decide +kernel
theorem dX12_route_121 : decode cX12_route 121 = .ok (.iastore, 1) := by decide +kernel
theorem dX12_route_122 : decode cX12_route 122 = .ok (.iinc 2 1, 3) := by decide +kernel
theorem dX12_route_125 : decode cX12_route 125 = .ok (.goto (-71), 3) := by decide +kernel
theorem dX12_route_128 : decode cX12_route 128 = .ok (.aload_n 0, 1) := by decide +kernel
theorem dX12_route_129 : decode cX12_route 129 = .ok (.aload_n 0, 1) := by decide +kernel
theorem dX12_route_130 : decode cX12_route 130 = .ok (.getfield 321, 3) := by decide +kernel
theorem dX12_route_133 : decode cX12_route 133 = .ok (.iload_n 1, 1) := by decide +kernel
theorem dX12_route_134 : decode cX12_route 134 = .ok (.bipush 6, 2) := by decide +kernel
theorem dX12_route_136 : decode cX12_route 136 = .ok (.iconst 3, 1) := by decide +kernel
theorem dX12_route_137 : decode cX12_route 137 = .ok (.aload_n 0, 1) := by decide +kernel
theorem dX12_route_138 : decode cX12_route 138 = .ok (.getfield 327, 3) := by decide +kernel
theorem dX12_route_141 : decode cX12_route 141 = .ok (.imul, 1) := by decide +kernel
theorem dX12_route_142 : decode cX12_route 142 = .ok (.iadd, 1) := by decide +kernel
theorem dX12_route_143 : decode cX12_route 143 = .ok (.invokevirtual 446, 3) := by decide +kernel
theorem dX12_route_146 : decode cX12_route 146 = .ok (.return_, 1) := by decide +kernel
theorem dX12_keeperTick_0 : decode cX12_keeperTick 0 = .ok (.iconst 0, 1) := by decide +kernel
theorem dX12_keeperTick_1 : decode cX12_keeperTick 1 = .ok (.istore_n 1, 1) := by decide +kernel
theorem dX12_keeperTick_2 : decode cX12_keeperTick 2 = .ok (.iload_n 1, 1) := by decide +kernel
theorem dX12_keeperTick_3 : decode cX12_keeperTick 3 = .ok (.aload_n 0, 1) := by decide +kernel
theorem dX12_keeperTick_4 : decode cX12_keeperTick 4 = .ok (.getfield 321, 3) := by decide +kernel
theorem dX12_keeperTick_7 : decode cX12_keeperTick 7 = .ok (.if_icmp .ge 165, 3) := by decide +kernel
theorem dX12_keeperTick_10 : decode cX12_keeperTick 10 = .ok (.aload_n 0, 1) := by decide +kernel
theorem dX12_keeperTick_11 : decode cX12_keeperTick 11 = .ok (.getfield 77, 3) := by decide +kernel
theorem dX12_keeperTick_14 : decode cX12_keeperTick 14 = .ok (.aload_n 0, 1) := by decide +kernel
theorem dX12_keeperTick_15 : decode cX12_keeperTick 15 = .ok (.getfield 321, 3) := by decide +kernel
theorem dX12_keeperTick_18 : decode cX12_keeperTick 18 = .ok (.baload, 1) := by decide +kernel
theorem dX12_keeperTick_19 : decode cX12_keeperTick 19 = .ok (.ifCond .eq 153, 3) := by decide +kernel
theorem dX12_keeperTick_22 : decode cX12_keeperTick 22 = .ok (.aload_n 0, 1) := by decide +kernel
theorem dX12_keeperTick_23 : decode cX12_keeperTick 23 = .ok (.getfield 188, 3) := by decide +kernel
theorem dX12_keeperTick_26 : decode cX12_keeperTick 26 = .ok (.iload_n 1, 1) := by decide +kernel
theorem dX12_keeperTick_27 : decode cX12_keeperTick 27 = .ok (.baload, 1) := by decide +kernel
theorem dX12_keeperTick_28 : decode cX12_keeperTick 28 = .ok (.ifCond .eq 138, 3) := by decide +kernel
theorem dX12_keeperTick_31 : decode cX12_keeperTick 31 = .ok (.aload_n 0, 1) := by decide +kernel
theorem dX12_keeperTick_32 : decode cX12_keeperTick 32 = .ok (.getfield 330, 3) := by decide +kernel
theorem dX12_keeperTick_35 : decode cX12_keeperTick 35 = .ok (.aload_n 0, 1) := by decide +kernel
theorem dX12_keeperTick_36 : decode cX12_keeperTick 36 = .ok (.getfield 191, 3) := by decide +kernel
theorem dX12_keeperTick_39 : decode cX12_keeperTick 39 = .ok (.iload_n 1, 1) := by decide +kernel
theorem dX12_keeperTick_40 : decode cX12_keeperTick 40 = .ok (.iaload, 1) := by decide +kernel
theorem dX12_keeperTick_41 : decode cX12_keeperTick 41 = .ok (.isub, 1) := by decide +kernel
theorem dX12_keeperTick_42 : decode cX12_keeperTick 42 = .ok (.bipush 8, 2) := by decide +kernel
theorem dX12_keeperTick_44 : decode cX12_keeperTick 44 = .ok (.if_icmp .lt 122, 3) := by decide +kernel
theorem dX12_keeperTick_47 : decode cX12_keeperTick 47 = .ok (.aload_n 0, 1) := by decide +kernel
theorem dX12_keeperTick_48 : decode cX12_keeperTick 48 = .ok (.getfield 188, 3) := by decide +kernel
theorem dX12_keeperTick_51 : decode cX12_keeperTick 51 = .ok (.iload_n 1, 1) := by decide +kernel
theorem dX12_keeperTick_52 : decode cX12_keeperTick 52 = .ok (.iconst 0, 1) := by decide +kernel
theorem dX12_keeperTick_53 : decode cX12_keeperTick 53 = .ok (.bastore, 1) := by decide +kernel
theorem dX12_keeperTick_54 : decode cX12_keeperTick 54 = .ok (.iconst 0, 1) := by decide +kernel
theorem dX12_keeperTick_55 : decode cX12_keeperTick 55 = .ok (.istore_n 2, 1) := by decide +kernel
theorem dX12_keeperTick_56 : decode cX12_keeperTick 56 = .ok (.iload_n 2, 1) := by decide +kernel
theorem dX12_keeperTick_57 : decode cX12_keeperTick 57 = .ok (.aload_n 0, 1) := by decide +kernel
theorem dX12_keeperTick_58 : decode cX12_keeperTick 58 = .ok (.getfield 327, 3) := by decide +kernel
theorem dX12_keeperTick_61 : decode cX12_keeperTick 61 = .ok (.if_icmp .ge 105, 3) := by decide +kernel
theorem dX12_keeperTick_64 : decode cX12_keeperTick 64 = .ok (.aload_n 0, 1) := by decide +kernel
theorem dX12_keeperTick_65 : decode cX12_keeperTick 65 = .ok (.getfield 77, 3) := by decide +kernel
theorem dX12_keeperTick_68 : decode cX12_keeperTick 68 = .ok (.aload_n 0, 1) := by decide +kernel
theorem dX12_keeperTick_69 : decode cX12_keeperTick 69 = .ok (.getfield 321, 3) := by decide +kernel
theorem dX12_keeperTick_72 : decode cX12_keeperTick 72 = .ok (.baload, 1) := by decide +kernel
theorem dX12_keeperTick_73 : decode cX12_keeperTick 73 = .ok (.ifCond .eq 93, 3) := by decide +kernel
theorem dX12_keeperTick_76 : decode cX12_keeperTick 76 = .ok (.bipush 20, 2) := by decide +kernel
theorem dX12_keeperTick_78 : decode cX12_keeperTick 78 = .ok (.iload_n 2, 1) := by decide +kernel
theorem dX12_keeperTick_79 : decode cX12_keeperTick 79 = .ok (.iadd, 1) := by decide +kernel
theorem dX12_keeperTick_80 : decode cX12_keeperTick 80 = .ok (.istore_n 3, 1) := by decide +kernel
theorem dX12_keeperTick_81 : decode cX12_keeperTick 81 = .ok (.aload_n 0, 1) := by decide +kernel
theorem dX12_keeperTick_82 : decode cX12_keeperTick 82 = .ok (.getfield 179, 3) := by decide +kernel
theorem dX12_keeperTick_85 : decode cX12_keeperTick 85 = .ok (.iload_n 3, 1) := by decide +kernel
theorem dX12_keeperTick_86 : decode cX12_keeperTick 86 = .ok (.iaload, 1) := by decide +kernel
theorem dX12_keeperTick_87 : decode cX12_keeperTick 87 = .ok (.iload_n 1, 1) := by decide +kernel
theorem dX12_keeperTick_88 : decode cX12_keeperTick 88 = .ok (.if_icmp .ne 13, 3) := by decide +kernel
theorem dX12_keeperTick_91 : decode cX12_keeperTick 91 = .ok (.aload_n 0, 1) := by decide +kernel
theorem dX12_keeperTick_92 : decode cX12_keeperTick 92 = .ok (.iload_n 2, 1) := by decide +kernel
theorem dX12_keeperTick_93 : decode cX12_keeperTick 93 = .ok (.invokevirtual 678, 3) := by decide +kernel
theorem dX12_keeperTick_96 : decode cX12_keeperTick 96 = .ok (.istore 4, 2) := by decide +kernel
theorem dX12_keeperTick_98 : decode cX12_keeperTick 98 = .ok (.goto 62, 3) := by decide +kernel
theorem dX12_keeperTick_101 : decode cX12_keeperTick 101 = .ok (.aload_n 0, 1) := by decide +kernel
theorem dX12_keeperTick_102 : decode cX12_keeperTick 102 = .ok (.getfield 182, 3) := by decide +kernel
theorem dX12_keeperTick_105 : decode cX12_keeperTick 105 = .ok (.iload_n 3, 1) := by decide +kernel
theorem dX12_keeperTick_106 : decode cX12_keeperTick 106 = .ok (.iaload, 1) := by decide +kernel
theorem dX12_keeperTick_107 : decode cX12_keeperTick 107 = .ok (.iload_n 1, 1) := by decide +kernel
theorem dX12_keeperTick_108 : decode cX12_keeperTick 108 = .ok (.ishr, 1) := by decide +kernel
theorem dX12_keeperTick_109 : decode cX12_keeperTick 109 = .ok (.iconst 1, 1) := by decide +kernel
theorem dX12_keeperTick_110 : decode cX12_keeperTick 110 = .ok (.iand, 1) := by decide +kernel
theorem dX12_keeperTick_111 : decode cX12_keeperTick 111 = .ok (.iconst 1, 1) := by decide +kernel
theorem dX12_keeperTick_112 : decode cX12_keeperTick 112 = .ok (.if_icmp .ne 48, 3) := by decide +kernel
theorem dX12_keeperTick_115 : decode cX12_keeperTick 115 = .ok (.aload_n 0, 1) := by decide +kernel
theorem dX12_keeperTick_116 : decode cX12_keeperTick 116 = .ok (.getfield 188, 3) := by decide +kernel
theorem dX12_keeperTick_119 : decode cX12_keeperTick 119 = .ok (.aload_n 0, 1) := by decide +kernel
theorem dX12_keeperTick_120 : decode cX12_keeperTick 120 = .ok (.getfield 179, 3) := by decide +kernel
theorem dX12_keeperTick_123 : decode cX12_keeperTick 123 = .ok (.iload_n 3, 1) := by decide +kernel
theorem dX12_keeperTick_124 : decode cX12_keeperTick 124 = .ok (.iaload, 1) := by decide +kernel
theorem dX12_keeperTick_125 : decode cX12_keeperTick 125 = .ok (.baload, 1) := by decide +kernel
theorem dX12_keeperTick_126 : decode cX12_keeperTick 126 = .ok (.ifCond .eq 34, 3) := by decide +kernel
theorem dX12_keeperTick_129 : decode cX12_keeperTick 129 = .ok (.aload_n 0, 1) := by decide +kernel
theorem dX12_keeperTick_130 : decode cX12_keeperTick 130 = .ok (.iload_n 2, 1) := by decide +kernel
theorem dX12_keeperTick_131 : decode cX12_keeperTick 131 = .ok (.aload_n 0, 1) := by decide +kernel
theorem dX12_keeperTick_132 : decode cX12_keeperTick 132 = .ok (.getfield 176, 3) := by decide +kernel
theorem dX12_keeperTick_135 : decode cX12_keeperTick 135 = .ok (.iload_n 3, 1) := by decide +kernel
theorem dX12_keeperTick_136 : decode cX12_keeperTick 136 = .ok (.iaload, 1) := by decide +kernel
theorem dX12_keeperTick_137 : decode cX12_keeperTick 137 = .ok (.aload_n 0, 1) := by decide +kernel
theorem dX12_keeperTick_138 : decode cX12_keeperTick 138 = .ok (.getfield 179, 3) := by decide +kernel
theorem dX12_keeperTick_141 : decode cX12_keeperTick 141 = .ok (.iload_n 3, 1) := by decide +kernel
theorem dX12_keeperTick_142 : decode cX12_keeperTick 142 = .ok (.iaload, 1) := by decide +kernel
theorem dX12_keeperTick_143 : decode cX12_keeperTick 143 = .ok (.aload_n 0, 1) := by decide +kernel
theorem dX12_keeperTick_144 : decode cX12_keeperTick 144 = .ok (.getfield 182, 3) := by decide +kernel
theorem dX12_keeperTick_147 : decode cX12_keeperTick 147 = .ok (.iload_n 3, 1) := by decide +kernel
theorem dX12_keeperTick_148 : decode cX12_keeperTick 148 = .ok (.iaload, 1) := by decide +kernel
theorem dX12_keeperTick_149 : decode cX12_keeperTick 149 = .ok (.iconst 1, 1) := by decide +kernel
theorem dX12_keeperTick_150 : decode cX12_keeperTick 150 = .ok (.iload_n 1, 1) := by decide +kernel
theorem dX12_keeperTick_151 : decode cX12_keeperTick 151 = .ok (.ishl, 1) := by decide +kernel
theorem dX12_keeperTick_152 : decode cX12_keeperTick 152 = .ok (.iconst (-1), 1) := by decide +kernel
theorem dX12_keeperTick_153 : decode cX12_keeperTick 153 = .ok (.ixor, 1) := by decide +kernel
theorem dX12_keeperTick_154 : decode cX12_keeperTick 154 = .ok (.iand, 1) := by decide +kernel
theorem dX12_keeperTick_155 : decode cX12_keeperTick 155 = .ok (.invokevirtual 675, 3) := by decide +kernel
theorem dX12_keeperTick_158 : decode cX12_keeperTick 158 = .ok (.istore 4, 2) := by decide +kernel
theorem dX12_keeperTick_160 : decode cX12_keeperTick 160 = .ok (.iinc 2 1, 3) := by decide +kernel
theorem dX12_keeperTick_163 : decode cX12_keeperTick 163 = .ok (.goto (-107), 3) := by decide +kernel
theorem dX12_keeperTick_166 : decode cX12_keeperTick 166 = .ok (.iinc 1 1, 3) := by decide +kernel
theorem dX12_keeperTick_169 : decode cX12_keeperTick 169 = .ok (.goto (-167), 3) := by decide +kernel
theorem dX12_keeperTick_172 : decode cX12_keeperTick 172 = .ok (.return_, 1) := by decide +kernel
theorem dX12_sendFail_0 : decode cX12_sendFail 0 = .ok (.iconst 5, 1) := by decide +kernel
theorem dX12_sendFail_1 : decode cX12_sendFail 1 = .ok (.iload_n 1, 1) := by decide +kernel
theorem dX12_sendFail_2 : decode cX12_sendFail 2 = .ok (.imul, 1) := by decide +kernel
theorem dX12_sendFail_3 : decode cX12_sendFail 3 = .ok (.iload_n 2, 1) := by decide +kernel
theorem dX12_sendFail_4 : decode cX12_sendFail 4 = .ok (.iadd, 1) := by decide +kernel
theorem dX12_sendFail_5 : decode cX12_sendFail 5 = .ok (.istore_n 3, 1) := by decide +kernel
theorem dX12_sendFail_6 : decode cX12_sendFail 6 = .ok (.aload_n 0, 1) := by decide +kernel
theorem dX12_sendFail_7 : decode cX12_sendFail 7 = .ok (.getfield 219, 3) := by decide +kernel
theorem dX12_sendFail_10 : decode cX12_sendFail 10 = .ok (.iconst 0, 1) := by decide +kernel
theorem dX12_sendFail_11 : decode cX12_sendFail 11 = .ok (.bipush 12, 2) := by decide +kernel
theorem dX12_sendFail_13 : decode cX12_sendFail 13 = .ok (.iastore, 1) := by decide +kernel
theorem dX12_sendFail_14 : decode cX12_sendFail 14 = .ok (.aload_n 0, 1) := by decide +kernel
theorem dX12_sendFail_15 : decode cX12_sendFail 15 = .ok (.getfield 219, 3) := by decide +kernel
theorem dX12_sendFail_18 : decode cX12_sendFail 18 = .ok (.iconst 1, 1) := by decide +kernel
theorem dX12_sendFail_19 : decode cX12_sendFail 19 = .ok (.iload_n 1, 1) := by decide +kernel
theorem dX12_sendFail_20 : decode cX12_sendFail 20 = .ok (.iconst 4, 1) := by decide +kernel
theorem dX12_sendFail_21 : decode cX12_sendFail 21 = .ok (.irem, 1) := by decide +kernel
theorem dX12_sendFail_22 : decode cX12_sendFail 22 = .ok (.iastore, 1) := by decide +kernel
theorem dX12_sendFail_23 : decode cX12_sendFail 23 = .ok (.aload_n 0, 1) := by decide +kernel
theorem dX12_sendFail_24 : decode cX12_sendFail 24 = .ok (.getfield 219, 3) := by decide +kernel
theorem dX12_sendFail_27 : decode cX12_sendFail 27 = .ok (.iconst 2, 1) := by decide +kernel
theorem dX12_sendFail_28 : decode cX12_sendFail 28 = .ok (.aload_n 0, 1) := by decide +kernel
theorem dX12_sendFail_29 : decode cX12_sendFail 29 = .ok (.getfield 125, 3) := by decide +kernel
theorem dX12_sendFail_32 : decode cX12_sendFail 32 = .ok (.iload_n 1, 1) := by decide +kernel
theorem dX12_sendFail_33 : decode cX12_sendFail 33 = .ok (.iaload, 1) := by decide +kernel
theorem dX12_sendFail_34 : decode cX12_sendFail 34 = .ok (.iastore, 1) := by decide +kernel
theorem dX12_sendFail_35 : decode cX12_sendFail 35 = .ok (.aload_n 0, 1) := by decide +kernel
theorem dX12_sendFail_36 : decode cX12_sendFail 36 = .ok (.getfield 219, 3) := by decide +kernel
theorem dX12_sendFail_39 : decode cX12_sendFail 39 = .ok (.iconst 3, 1) := by decide +kernel
theorem dX12_sendFail_40 : decode cX12_sendFail 40 = .ok (.iload_n 2, 1) := by decide +kernel
theorem dX12_sendFail_41 : decode cX12_sendFail 41 = .ok (.iastore, 1) := by decide +kernel
theorem dX12_sendFail_42 : decode cX12_sendFail 42 = .ok (.aload_n 0, 1) := by decide +kernel
theorem dX12_sendFail_43 : decode cX12_sendFail 43 = .ok (.getfield 219, 3) := by decide +kernel
theorem dX12_sendFail_46 : decode cX12_sendFail 46 = .ok (.iconst 4, 1) := by decide +kernel
theorem dX12_sendFail_47 : decode cX12_sendFail 47 = .ok (.aload_n 0, 1) := by decide +kernel
theorem dX12_sendFail_48 : decode cX12_sendFail 48 = .ok (.getfield 173, 3) := by decide +kernel
theorem dX12_sendFail_51 : decode cX12_sendFail 51 = .ok (.iload_n 3, 1) := by decide +kernel
theorem dX12_sendFail_52 : decode cX12_sendFail 52 = .ok (.iaload, 1) := by decide +kernel
theorem dX12_sendFail_53 : decode cX12_sendFail 53 = .ok (.iastore, 1) := by decide +kernel
theorem dX12_sendFail_54 : decode cX12_sendFail 54 = .ok (.aload_n 0, 1) := by decide +kernel
theorem dX12_sendFail_55 : decode cX12_sendFail 55 = .ok (.iload_n 1, 1) := by decide +kernel
theorem dX12_sendFail_56 : decode cX12_sendFail 56 = .ok (.iconst 4, 1) := by decide +kernel
theorem dX12_sendFail_57 : decode cX12_sendFail 57 = .ok (.idiv, 1) := by decide +kernel
theorem dX12_sendFail_58 : decode cX12_sendFail 58 = .ok (.aload_n 0, 1) := by decide +kernel
theorem dX12_sendFail_59 : decode cX12_sendFail 59 = .ok (.getfield 321, 3) := by decide +kernel
theorem dX12_sendFail_62 : decode cX12_sendFail 62 = .ok (.iconst 5, 1) := by decide +kernel
theorem dX12_sendFail_63 : decode cX12_sendFail 63 = .ok (.invokevirtual 446, 3) := by decide +kernel
theorem dX12_sendFail_66 : decode cX12_sendFail 66 = .ok (.aload_n 0, 1) := by decide +kernel
theorem dX12_sendFail_67 : decode cX12_sendFail 67 = .ok (.getfield 167, 3) := by decide +kernel
theorem dX12_sendFail_70 : decode cX12_sendFail 70 = .ok (.iload_n 3, 1) := by decide +kernel
theorem dX12_sendFail_71 : decode cX12_sendFail 71 = .ok (.aload_n 0, 1) := by decide +kernel
theorem dX12_sendFail_72 : decode cX12_sendFail 72 = .ok (.getfield 330, 3) := by decide +kernel
theorem dX12_sendFail_75 : decode cX12_sendFail 75 = .ok (.iastore, 1) := by decide +kernel
theorem dX12_sendFail_76 : decode cX12_sendFail 76 = .ok (.return_, 1) := by decide +kernel
theorem dX12_primaryTick_0 : decode cX12_primaryTick 0 = .ok (.iconst 5, 1) := by decide +kernel
theorem dX12_primaryTick_1 : decode cX12_primaryTick 1 = .ok (.iload_n 1, 1) := by decide +kernel
theorem dX12_primaryTick_2 : decode cX12_primaryTick 2 = .ok (.imul, 1) := by decide +kernel
theorem dX12_primaryTick_3 : decode cX12_primaryTick 3 = .ok (.iload_n 2, 1) := by decide +kernel
theorem dX12_primaryTick_4 : decode cX12_primaryTick 4 = .ok (.iadd, 1) := by decide +kernel
theorem dX12_primaryTick_5 : decode cX12_primaryTick 5 = .ok (.istore_n 3, 1) := by decide +kernel
theorem dX12_primaryTick_6 : decode cX12_primaryTick 6 = .ok (.aload_n 0, 1) := by decide +kernel
theorem dX12_primaryTick_7 : decode cX12_primaryTick 7 = .ok (.getfield 161, 3) := by decide +kernel
theorem dX12_primaryTick_10 : decode cX12_primaryTick 10 = .ok (.iload_n 3, 1) := by decide +kernel
theorem dX12_primaryTick_11 : decode cX12_primaryTick 11 = .ok (.iaload, 1) := by decide +kernel
theorem dX12_primaryTick_12 : decode cX12_primaryTick 12 = .ok (.aload_n 0, 1) := by decide +kernel
theorem dX12_primaryTick_13 : decode cX12_primaryTick 13 = .ok (.getfield 131, 3) := by decide +kernel
theorem dX12_primaryTick_16 : decode cX12_primaryTick 16 = .ok (.iload_n 1, 1) := by decide +kernel
theorem dX12_primaryTick_17 : decode cX12_primaryTick 17 = .ok (.iaload, 1) := by decide +kernel
theorem dX12_primaryTick_18 : decode cX12_primaryTick 18 = .ok (.if_icmp .ne 18, 3) := by decide +kernel
theorem dX12_primaryTick_21 : decode cX12_primaryTick 21 = .ok (.aload_n 0, 1) := by decide +kernel
theorem dX12_primaryTick_22 : decode cX12_primaryTick 22 = .ok (.getfield 164, 3) := by decide +kernel
theorem dX12_primaryTick_25 : decode cX12_primaryTick 25 = .ok (.iload_n 3, 1) := by decide +kernel
theorem dX12_primaryTick_26 : decode cX12_primaryTick 26 = .ok (.iaload, 1) := by decide +kernel
theorem dX12_primaryTick_27 : decode cX12_primaryTick 27 = .ok (.aload_n 0, 1) := by decide +kernel
theorem dX12_primaryTick_28 : decode cX12_primaryTick 28 = .ok (.getfield 137, 3) := by decide +kernel
theorem dX12_primaryTick_31 : decode cX12_primaryTick 31 = .ok (.iload_n 1, 1) := by decide +kernel
theorem dX12_primaryTick_32 : decode cX12_primaryTick 32 = .ok (.iaload, 1) := by decide +kernel
theorem dX12_primaryTick_33 : decode cX12_primaryTick 33 = .ok (.if_icmp .ge 7, 3) := by decide +kernel
theorem dX12_primaryTick_36 : decode cX12_primaryTick 36 = .ok (.iconst 1, 1) := by decide +kernel
theorem dX12_primaryTick_37 : decode cX12_primaryTick 37 = .ok (.goto 4, 3) := by decide +kernel
theorem dX12_primaryTick_40 : decode cX12_primaryTick 40 = .ok (.iconst 0, 1) := by decide +kernel
theorem dX12_primaryTick_41 : decode cX12_primaryTick 41 = .ok (.istore 4, 2) := by decide +kernel
theorem dX12_primaryTick_43 : decode cX12_primaryTick 43 = .ok (.aload_n 0, 1) := by decide +kernel
theorem dX12_primaryTick_44 : decode cX12_primaryTick 44 = .ok (.getfield 158, 3) := by decide +kernel
theorem dX12_primaryTick_47 : decode cX12_primaryTick 47 = .ok (.iload_n 3, 1) := by decide +kernel
theorem dX12_primaryTick_48 : decode cX12_primaryTick 48 = .ok (.iaload, 1) := by decide +kernel
theorem dX12_primaryTick_49 : decode cX12_primaryTick 49 = .ok (.iconst 4, 1) := by decide +kernel
theorem dX12_primaryTick_50 : decode cX12_primaryTick 50 = .ok (.if_icmp .ne 26, 3) := by decide +kernel
theorem dX12_primaryTick_53 : decode cX12_primaryTick 53 = .ok (.aload_n 0, 1) := by decide +kernel
theorem dX12_primaryTick_54 : decode cX12_primaryTick 54 = .ok (.getfield 330, 3) := by decide +kernel
theorem dX12_primaryTick_57 : decode cX12_primaryTick 57 = .ok (.aload_n 0, 1) := by decide +kernel
theorem dX12_primaryTick_58 : decode cX12_primaryTick 58 = .ok (.getfield 167, 3) := by decide +kernel
theorem dX12_primaryTick_61 : decode cX12_primaryTick 61 = .ok (.iload_n 3, 1) := by decide +kernel
theorem dX12_primaryTick_62 : decode cX12_primaryTick 62 = .ok (.iaload, 1) := by decide +kernel
theorem dX12_primaryTick_63 : decode cX12_primaryTick 63 = .ok (.isub, 1) := by decide +kernel
theorem dX12_primaryTick_64 : decode cX12_primaryTick 64 = .ok (.bipush 9, 2) := by decide +kernel
theorem dX12_primaryTick_66 : decode cX12_primaryTick 66 = .ok (.if_icmp .lt 9, 3) := by decide +kernel
theorem dX12_primaryTick_69 : decode cX12_primaryTick 69 = .ok (.aload_n 0, 1) := by decide +kernel
theorem dX12_primaryTick_70 : decode cX12_primaryTick 70 = .ok (.iload_n 1, 1) := by decide +kernel
theorem dX12_primaryTick_71 : decode cX12_primaryTick 71 = .ok (.iload_n 2, 1) := by decide +kernel
theorem dX12_primaryTick_72 : decode cX12_primaryTick 72 = .ok (.invokevirtual 684, 3) := by decide +kernel
theorem dX12_primaryTick_75 : decode cX12_primaryTick 75 = .ok (.return_, 1) := by decide +kernel
theorem dX12_primaryTick_76 : decode cX12_primaryTick 76 = .ok (.iload 4, 2) := by decide +kernel
theorem dX12_primaryTick_78 : decode cX12_primaryTick 78 = .ok (.ifCond .ne 45, 3) := by decide +kernel
theorem dX12_primaryTick_81 : decode cX12_primaryTick 81 = .ok (.aload_n 0, 1) := by decide +kernel
theorem dX12_primaryTick_82 : decode cX12_primaryTick 82 = .ok (.getfield 167, 3) := by decide +kernel
theorem dX12_primaryTick_85 : decode cX12_primaryTick 85 = .ok (.iload_n 3, 1) := by decide +kernel
theorem dX12_primaryTick_86 : decode cX12_primaryTick 86 = .ok (.aload_n 0, 1) := by decide +kernel
theorem dX12_primaryTick_87 : decode cX12_primaryTick 87 = .ok (.getfield 330, 3) := by decide +kernel
theorem dX12_primaryTick_90 : decode cX12_primaryTick 90 = .ok (.iastore, 1) := by decide +kernel
theorem dX12_primaryTick_91 : decode cX12_primaryTick 91 = .ok (.aload_n 0, 1) := by decide +kernel
theorem dX12_primaryTick_92 : decode cX12_primaryTick 92 = .ok (.getfield 158, 3) := by decide +kernel
theorem dX12_primaryTick_95 : decode cX12_primaryTick 95 = .ok (.iload_n 3, 1) := by decide +kernel
theorem dX12_primaryTick_96 : decode cX12_primaryTick 96 = .ok (.iaload, 1) := by decide +kernel
theorem dX12_primaryTick_97 : decode cX12_primaryTick 97 = .ok (.iconst 2, 1) := by decide +kernel
theorem dX12_primaryTick_98 : decode cX12_primaryTick 98 = .ok (.if_icmp .ne 24, 3) := by decide +kernel
theorem dX12_primaryTick_101 : decode cX12_primaryTick 101 = .ok (.aload_n 0, 1) := by decide +kernel
theorem dX12_primaryTick_102 : decode cX12_primaryTick 102 = .ok (.getfield 330, 3) := by decide +kernel
theorem dX12_primaryTick_105 : decode cX12_primaryTick 105 = .ok (.aload_n 0, 1) := by decide +kernel
theorem dX12_primaryTick_106 : decode cX12_primaryTick 106 = .ok (.getfield 170, 3) := by decide +kernel
theorem dX12_primaryTick_109 : decode cX12_primaryTick 109 = .ok (.iload_n 3, 1) := by decide +kernel
theorem dX12_primaryTick_110 : decode cX12_primaryTick 110 = .ok (.iaload, 1) := by decide +kernel
theorem dX12_primaryTick_111 : decode cX12_primaryTick 111 = .ok (.isub, 1) := by decide +kernel
theorem dX12_primaryTick_112 : decode cX12_primaryTick 112 = .ok (.iconst 3, 1) := by decide +kernel
theorem dX12_primaryTick_113 : decode cX12_primaryTick 113 = .ok (.if_icmp .lt 9, 3) := by decide +kernel
theorem dX12_primaryTick_116 : decode cX12_primaryTick 116 = .ok (.aload_n 0, 1) := by decide +kernel
theorem dX12_primaryTick_117 : decode cX12_primaryTick 117 = .ok (.iload_n 1, 1) := by decide +kernel
theorem dX12_primaryTick_118 : decode cX12_primaryTick 118 = .ok (.iload_n 2, 1) := by decide +kernel
theorem dX12_primaryTick_119 : decode cX12_primaryTick 119 = .ok (.invokevirtual 648, 3) := by decide +kernel
theorem dX12_primaryTick_122 : decode cX12_primaryTick 122 = .ok (.return_, 1) := by decide +kernel
theorem dX12_primaryTick_123 : decode cX12_primaryTick 123 = .ok (.aload_n 0, 1) := by decide +kernel
theorem dX12_primaryTick_124 : decode cX12_primaryTick 124 = .ok (.getfield 158, 3) := by decide +kernel
theorem dX12_primaryTick_127 : decode cX12_primaryTick 127 = .ok (.iload_n 3, 1) := by decide +kernel
theorem dX12_primaryTick_128 : decode cX12_primaryTick 128 = .ok (.iaload, 1) := by decide +kernel
theorem dX12_primaryTick_129 : decode cX12_primaryTick 129 = .ok (.iconst 2, 1) := by decide +kernel
theorem dX12_primaryTick_130 : decode cX12_primaryTick 130 = .ok (.if_icmp .lt 35, 3) := by decide +kernel
theorem dX12_primaryTick_133 : decode cX12_primaryTick 133 = .ok (.aload_n 0, 1) := by decide +kernel
theorem dX12_primaryTick_134 : decode cX12_primaryTick 134 = .ok (.getfield 330, 3) := by decide +kernel
theorem dX12_primaryTick_137 : decode cX12_primaryTick 137 = .ok (.aload_n 0, 1) := by decide +kernel
theorem dX12_primaryTick_138 : decode cX12_primaryTick 138 = .ok (.getfield 167, 3) := by decide +kernel
theorem dX12_primaryTick_141 : decode cX12_primaryTick 141 = .ok (.iload_n 3, 1) := by decide +kernel
theorem dX12_primaryTick_142 : decode cX12_primaryTick 142 = .ok (.iaload, 1) := by decide +kernel
theorem dX12_primaryTick_143 : decode cX12_primaryTick 143 = .ok (.isub, 1) := by decide +kernel
theorem dX12_primaryTick_144 : decode cX12_primaryTick 144 = .ok (.bipush 9, 2) := by decide +kernel
theorem dX12_primaryTick_146 : decode cX12_primaryTick 146 = .ok (.if_icmp .lt 19, 3) := by decide +kernel
theorem dX12_primaryTick_149 : decode cX12_primaryTick 149 = .ok (.aload_n 0, 1) := by decide +kernel
theorem dX12_primaryTick_150 : decode cX12_primaryTick 150 = .ok (.getfield 158, 3) := by decide +kernel
theorem dX12_primaryTick_153 : decode cX12_primaryTick 153 = .ok (.iload_n 3, 1) := by decide +kernel
theorem dX12_primaryTick_154 : decode cX12_primaryTick 154 = .ok (.iconst 4, 1) := by decide +kernel
theorem dX12_primaryTick_155 : decode cX12_primaryTick 155 = .ok (.iastore, 1) := by decide +kernel
theorem dX12_primaryTick_156 : decode cX12_primaryTick 156 = .ok (.aload_n 0, 1) := by decide +kernel
theorem dX12_primaryTick_157 : decode cX12_primaryTick 157 = .ok (.iload_n 1, 1) := by decide +kernel
theorem dX12_primaryTick_158 : decode cX12_primaryTick 158 = .ok (.iload_n 2, 1) := by decide +kernel
theorem dX12_primaryTick_159 : decode cX12_primaryTick 159 = .ok (.invokevirtual 684, 3) := by decide +kernel
theorem dX12_primaryTick_162 : decode cX12_primaryTick 162 = .ok (.goto 24, 3) := by decide +kernel
theorem dX12_primaryTick_165 : decode cX12_primaryTick 165 = .ok (.aload_n 0, 1) := by decide +kernel
theorem dX12_primaryTick_166 : decode cX12_primaryTick 166 = .ok (.getfield 330, 3) := by decide +kernel
theorem dX12_primaryTick_169 : decode cX12_primaryTick 169 = .ok (.aload_n 0, 1) := by decide +kernel
theorem dX12_primaryTick_170 : decode cX12_primaryTick 170 = .ok (.getfield 170, 3) := by decide +kernel
theorem dX12_primaryTick_173 : decode cX12_primaryTick 173 = .ok (.iload_n 3, 1) := by decide +kernel
theorem dX12_primaryTick_174 : decode cX12_primaryTick 174 = .ok (.iaload, 1) := by decide +kernel
theorem dX12_primaryTick_175 : decode cX12_primaryTick 175 = .ok (.isub, 1) := by decide +kernel
theorem dX12_primaryTick_176 : decode cX12_primaryTick 176 = .ok (.iconst 3, 1) := by decide +kernel
theorem dX12_primaryTick_177 : decode cX12_primaryTick 177 = .ok (.if_icmp .lt 9, 3) := by decide +kernel
theorem dX12_primaryTick_180 : decode cX12_primaryTick 180 = .ok (.aload_n 0, 1) := by decide +kernel
theorem dX12_primaryTick_181 : decode cX12_primaryTick 181 = .ok (.iload_n 1, 1) := by decide +kernel
theorem dX12_primaryTick_182 : decode cX12_primaryTick 182 = .ok (.iload_n 2, 1) := by decide +kernel
theorem dX12_primaryTick_183 : decode cX12_primaryTick 183 = .ok (.invokevirtual 687, 3) := by decide +kernel
theorem dX12_primaryTick_186 : decode cX12_primaryTick 186 = .ok (.return_, 1) := by decide +kernel
theorem dX12_catchUp_0 : decode cX12_catchUp 0 = .ok (.iconst 5, 1) := by decide +kernel
theorem dX12_catchUp_1 : decode cX12_catchUp 1 = .ok (.iload_n 1, 1) := by decide +kernel
theorem dX12_catchUp_2 : decode cX12_catchUp 2 = .ok (.imul, 1) := by decide +kernel
theorem dX12_catchUp_3 : decode cX12_catchUp 3 = .ok (.iload_n 2, 1) := by decide +kernel
theorem dX12_catchUp_4 : decode cX12_catchUp 4 = .ok (.iadd, 1) := by decide +kernel
theorem dX12_catchUp_5 : decode cX12_catchUp 5 = .ok (.istore_n 3, 1) := by decide +kernel
theorem dX12_catchUp_6 : decode cX12_catchUp 6 = .ok (.aload_n 0, 1) := by decide +kernel
theorem dX12_catchUp_7 : decode cX12_catchUp 7 = .ok (.getfield 161, 3) := by decide +kernel
theorem dX12_catchUp_10 : decode cX12_catchUp 10 = .ok (.iload_n 3, 1) := by decide +kernel
theorem dX12_catchUp_11 : decode cX12_catchUp 11 = .ok (.iaload, 1) := by decide +kernel
theorem dX12_catchUp_12 : decode cX12_catchUp 12 = .ok (.iconst (-1), 1) := by decide +kernel
theorem dX12_catchUp_13 : decode cX12_catchUp 13 = .ok (.if_icmp .ne 10, 3) := by decide +kernel
theorem dX12_catchUp_16 : decode cX12_catchUp 16 = .ok (.aload_n 0, 1) := by decide +kernel
theorem dX12_catchUp_17 : decode cX12_catchUp 17 = .ok (.iload_n 1, 1) := by decide +kernel
theorem dX12_catchUp_18 : decode cX12_catchUp 18 = .ok (.iload_n 2, 1) := by decide +kernel
theorem dX12_catchUp_19 : decode cX12_catchUp 19 = .ok (.invokevirtual 453, 3) := by decide +kernel
theorem dX12_catchUp_22 : decode cX12_catchUp 22 = .ok (.return_, 1) := by decide +kernel
theorem dX12_catchUp_23 : decode cX12_catchUp 23 = .ok (.aload_n 0, 1) := by decide +kernel
theorem dX12_catchUp_24 : decode cX12_catchUp 24 = .ok (.getfield 161, 3) := by decide +kernel
theorem dX12_catchUp_27 : decode cX12_catchUp 27 = .ok (.iload_n 3, 1) := by decide +kernel
theorem dX12_catchUp_28 : decode cX12_catchUp 28 = .ok (.iaload, 1) := by decide +kernel
theorem dX12_catchUp_29 : decode cX12_catchUp 29 = .ok (.aload_n 0, 1) := by decide +kernel
theorem dX12_catchUp_30 : decode cX12_catchUp 30 = .ok (.getfield 128, 3) := by decide +kernel
theorem dX12_catchUp_33 : decode cX12_catchUp 33 = .ok (.iload_n 1, 1) := by decide +kernel
theorem dX12_catchUp_34 : decode cX12_catchUp 34 = .ok (.iaload, 1) := by decide +kernel
theorem dX12_catchUp_35 : decode cX12_catchUp 35 = .ok (.if_icmp .ge 12, 3) := by decide +kernel
theorem dX12_catchUp_38 : decode cX12_catchUp 38 = .ok (.aload_n 0, 1) := by decide +kernel
theorem dX12_catchUp_39 : decode cX12_catchUp 39 = .ok (.iload_n 1, 1) := by decide +kernel
theorem dX12_catchUp_40 : decode cX12_catchUp 40 = .ok (.iload_n 2, 1) := by decide +kernel
theorem dX12_catchUp_41 : decode cX12_catchUp 41 = .ok (.invokevirtual 453, 3) := by decide +kernel
theorem dX12_catchUp_44 : decode cX12_catchUp 44 = .ok (.goto 51, 3) := by decide +kernel
theorem dX12_catchUp_47 : decode cX12_catchUp 47 = .ok (.aload_n 0, 1) := by decide +kernel
theorem dX12_catchUp_48 : decode cX12_catchUp 48 = .ok (.getfield 161, 3) := by decide +kernel
theorem dX12_catchUp_51 : decode cX12_catchUp 51 = .ok (.iload_n 3, 1) := by decide +kernel
theorem dX12_catchUp_52 : decode cX12_catchUp 52 = .ok (.iaload, 1) := by decide +kernel
theorem dX12_catchUp_53 : decode cX12_catchUp 53 = .ok (.iconst 1, 1) := by decide +kernel
theorem dX12_catchUp_54 : decode cX12_catchUp 54 = .ok (.iadd, 1) := by decide +kernel
theorem dX12_catchUp_55 : decode cX12_catchUp 55 = .ok (.istore 4, 2) := by decide +kernel
theorem dX12_catchUp_57 : decode cX12_catchUp 57 = .ok (.iload 4, 2) := by decide +kernel
theorem dX12_catchUp_59 : decode cX12_catchUp 59 = .ok (.aload_n 0, 1) := by decide +kernel
theorem dX12_catchUp_60 : decode cX12_catchUp 60 = .ok (.getfield 131, 3) := by decide +kernel
theorem dX12_catchUp_63 : decode cX12_catchUp 63 = .ok (.iload_n 1, 1) := by decide +kernel
theorem dX12_catchUp_64 : decode cX12_catchUp 64 = .ok (.iaload, 1) := by decide +kernel
theorem dX12_catchUp_65 : decode cX12_catchUp 65 = .ok (.if_icmp .gt 30, 3) := by decide +kernel
theorem dX12_catchUp_68 : decode cX12_catchUp 68 = .ok (.iload 4, 2) := by decide +kernel
theorem dX12_catchUp_70 : decode cX12_catchUp 70 = .ok (.aload_n 0, 1) := by decide +kernel
theorem dX12_catchUp_71 : decode cX12_catchUp 71 = .ok (.getfield 161, 3) := by decide +kernel
theorem dX12_catchUp_74 : decode cX12_catchUp 74 = .ok (.iload_n 3, 1) := by decide +kernel
theorem dX12_catchUp_75 : decode cX12_catchUp 75 = .ok (.iaload, 1) := by decide +kernel
theorem dX12_catchUp_76 : decode cX12_catchUp 76 = .ok (.iconst 4, 1) := by decide +kernel
theorem dX12_catchUp_77 : decode cX12_catchUp 77 = .ok (.iadd, 1) := by decide +kernel
theorem dX12_catchUp_78 : decode cX12_catchUp 78 = .ok (.if_icmp .gt 17, 3) := by decide +kernel
theorem dX12_catchUp_81 : decode cX12_catchUp 81 = .ok (.aload_n 0, 1) := by decide +kernel
theorem dX12_catchUp_82 : decode cX12_catchUp 82 = .ok (.iload_n 1, 1) := by decide +kernel
theorem dX12_catchUp_83 : decode cX12_catchUp 83 = .ok (.iload_n 2, 1) := by decide +kernel
theorem dX12_catchUp_84 : decode cX12_catchUp 84 = .ok (.iload 4, 2) := by decide +kernel
theorem dX12_catchUp_86 : decode cX12_catchUp 86 = .ok (.invokevirtual 638, 3) := by decide +kernel
theorem dX12_catchUp_89 : decode cX12_catchUp 89 = .ok (.iinc 4 1, 3) := by decide +kernel
theorem dX12_catchUp_92 : decode cX12_catchUp 92 = .ok (.goto (-35), 3) := by decide +kernel
theorem dX12_catchUp_95 : decode cX12_catchUp 95 = .ok (.aload_n 0, 1) := by decide +kernel
theorem dX12_catchUp_96 : decode cX12_catchUp 96 = .ok (.getfield 164, 3) := by decide +kernel
theorem dX12_catchUp_99 : decode cX12_catchUp 99 = .ok (.iload_n 3, 1) := by decide +kernel
theorem dX12_catchUp_100 : decode cX12_catchUp 100 = .ok (.iaload, 1) := by decide +kernel
theorem dX12_catchUp_101 : decode cX12_catchUp 101 = .ok (.aload_n 0, 1) := by decide +kernel
theorem dX12_catchUp_102 : decode cX12_catchUp 102 = .ok (.getfield 137, 3) := by decide +kernel
theorem dX12_catchUp_105 : decode cX12_catchUp 105 = .ok (.iload_n 1, 1) := by decide +kernel
theorem dX12_catchUp_106 : decode cX12_catchUp 106 = .ok (.iaload, 1) := by decide +kernel
theorem dX12_catchUp_107 : decode cX12_catchUp 107 = .ok (.if_icmp .ge 9, 3) := by decide +kernel
theorem dX12_catchUp_110 : decode cX12_catchUp 110 = .ok (.aload_n 0, 1) := by decide +kernel
theorem dX12_catchUp_111 : decode cX12_catchUp 111 = .ok (.iload_n 1, 1) := by decide +kernel
theorem dX12_catchUp_112 : decode cX12_catchUp 112 = .ok (.iload_n 2, 1) := by decide +kernel
theorem dX12_catchUp_113 : decode cX12_catchUp 113 = .ok (.invokevirtual 669, 3) := by decide +kernel
theorem dX12_catchUp_116 : decode cX12_catchUp 116 = .ok (.aload_n 0, 1) := by decide +kernel
theorem dX12_catchUp_117 : decode cX12_catchUp 117 = .ok (.getfield 170, 3) := by decide +kernel
theorem dX12_catchUp_120 : decode cX12_catchUp 120 = .ok (.iload_n 3, 1) := by decide +kernel
theorem dX12_catchUp_121 : decode cX12_catchUp 121 = .ok (.aload_n 0, 1) := by decide +kernel
theorem dX12_catchUp_122 : decode cX12_catchUp 122 = .ok (.getfield 330, 3) := by decide +kernel
theorem dX12_catchUp_125 : decode cX12_catchUp 125 = .ok (.iastore, 1) := by decide +kernel
theorem dX12_catchUp_126 : decode cX12_catchUp 126 = .ok (.return_, 1) := by decide +kernel
theorem dX12_copyTick_0 : decode cX12_copyTick 0 = .ok (.aload_n 0, 1) := by decide +kernel
theorem dX12_copyTick_1 : decode cX12_copyTick 1 = .ok (.getfield 140, 3) := by decide +kernel
theorem dX12_copyTick_4 : decode cX12_copyTick 4 = .ok (.iload_n 1, 1) := by decide +kernel
theorem dX12_copyTick_5 : decode cX12_copyTick 5 = .ok (.iaload, 1) := by decide +kernel
theorem dX12_copyTick_6 : decode cX12_copyTick 6 = .ok (.iconst 2, 1) := by decide +kernel
theorem dX12_copyTick_7 : decode cX12_copyTick 7 = .ok (.if_icmp .ne 50, 3) := by decide +kernel
theorem dX12_copyTick_10 : decode cX12_copyTick 10 = .ok (.iconst 0, 1) := by decide +kernel
theorem dX12_copyTick_11 : decode cX12_copyTick 11 = .ok (.istore_n 2, 1) := by decide +kernel
theorem dX12_copyTick_12 : decode cX12_copyTick 12 = .ok (.iload_n 2, 1) := by decide +kernel
theorem dX12_copyTick_13 : decode cX12_copyTick 13 = .ok (.aload_n 0, 1) := by decide +kernel
theorem dX12_copyTick_14 : decode cX12_copyTick 14 = .ok (.getfield 321, 3) := by decide +kernel
theorem dX12_copyTick_17 : decode cX12_copyTick 17 = .ok (.if_icmp .ge 37, 3) := by decide +kernel
theorem dX12_copyTick_20 : decode cX12_copyTick 20 = .ok (.aload_n 0, 1) := by decide +kernel
theorem dX12_copyTick_21 : decode cX12_copyTick 21 = .ok (.iload_n 1, 1) := by decide +kernel
theorem dX12_copyTick_22 : decode cX12_copyTick 22 = .ok (.iload_n 2, 1) := by decide +kernel
theorem dX12_copyTick_23 : decode cX12_copyTick 23 = .ok (.invokevirtual 431, 3) := by decide +kernel
theorem dX12_copyTick_26 : decode cX12_copyTick 26 = .ok (.ifCond .eq 22, 3) := by decide +kernel
theorem dX12_copyTick_29 : decode cX12_copyTick 29 = .ok (.aload_n 0, 1) := by decide +kernel
theorem dX12_copyTick_30 : decode cX12_copyTick 30 = .ok (.getfield 158, 3) := by decide +kernel
theorem dX12_copyTick_33 : decode cX12_copyTick 33 = .ok (.iconst 5, 1) := by decide +kernel
theorem dX12_copyTick_34 : decode cX12_copyTick 34 = .ok (.iload_n 1, 1) := by decide +kernel
theorem dX12_copyTick_35 : decode cX12_copyTick 35 = .ok (.imul, 1) := by decide +kernel
theorem dX12_copyTick_36 : decode cX12_copyTick 36 = .ok (.iload_n 2, 1) := by decide +kernel
theorem dX12_copyTick_37 : decode cX12_copyTick 37 = .ok (.iadd, 1) := by decide +kernel
theorem dX12_copyTick_38 : decode cX12_copyTick 38 = .ok (.iaload, 1) := by decide +kernel
theorem dX12_copyTick_39 : decode cX12_copyTick 39 = .ok (.ifCond .le 9, 3) := by decide +kernel
theorem dX12_copyTick_42 : decode cX12_copyTick 42 = .ok (.aload_n 0, 1) := by decide +kernel
theorem dX12_copyTick_43 : decode cX12_copyTick 43 = .ok (.iload_n 1, 1) := by decide +kernel
theorem dX12_copyTick_44 : decode cX12_copyTick 44 = .ok (.iload_n 2, 1) := by decide +kernel
theorem dX12_copyTick_45 : decode cX12_copyTick 45 = .ok (.invokevirtual 690, 3) := by decide +kernel
theorem dX12_copyTick_48 : decode cX12_copyTick 48 = .ok (.iinc 2 1, 3) := by decide +kernel
theorem dX12_copyTick_51 : decode cX12_copyTick 51 = .ok (.goto (-39), 3) := by decide +kernel
theorem dX12_copyTick_54 : decode cX12_copyTick 54 = .ok (.goto 41, 3) := by decide +kernel
theorem dX12_copyTick_57 : decode cX12_copyTick 57 = .ok (.aload_n 0, 1) := by decide +kernel
theorem dX12_copyTick_58 : decode cX12_copyTick 58 = .ok (.getfield 140, 3) := by decide +kernel
theorem dX12_copyTick_61 : decode cX12_copyTick 61 = .ok (.iload_n 1, 1) := by decide +kernel
theorem dX12_copyTick_62 : decode cX12_copyTick 62 = .ok (.iaload, 1) := by decide +kernel
theorem dX12_copyTick_63 : decode cX12_copyTick 63 = .ok (.ifCond .ne 32, 3) := by decide +kernel
theorem dX12_copyTick_66 : decode cX12_copyTick 66 = .ok (.aload_n 0, 1) := by decide +kernel
theorem dX12_copyTick_67 : decode cX12_copyTick 67 = .ok (.getfield 185, 3) := by decide +kernel
theorem dX12_copyTick_70 : decode cX12_copyTick 70 = .ok (.iload_n 1, 1) := by decide +kernel
theorem dX12_copyTick_71 : decode cX12_copyTick 71 = .ok (.iaload, 1) := by decide +kernel
theorem dX12_copyTick_72 : decode cX12_copyTick 72 = .ok (.ifCond .le 23, 3) := by decide +kernel
theorem dX12_copyTick_75 : decode cX12_copyTick 75 = .ok (.aload_n 0, 1) := by decide +kernel
theorem dX12_copyTick_76 : decode cX12_copyTick 76 = .ok (.getfield 330, 3) := by decide +kernel
theorem dX12_copyTick_79 : decode cX12_copyTick 79 = .ok (.aload_n 0, 1) := by decide +kernel
theorem dX12_copyTick_80 : decode cX12_copyTick 80 = .ok (.getfield 143, 3) := by decide +kernel
theorem dX12_copyTick_83 : decode cX12_copyTick 83 = .ok (.iload_n 1, 1) := by decide +kernel
theorem dX12_copyTick_84 : decode cX12_copyTick 84 = .ok (.iaload, 1) := by decide +kernel
theorem dX12_copyTick_85 : decode cX12_copyTick 85 = .ok (.isub, 1) := by decide +kernel
theorem dX12_copyTick_86 : decode cX12_copyTick 86 = .ok (.iconst 3, 1) := by decide +kernel
theorem dX12_copyTick_87 : decode cX12_copyTick 87 = .ok (.if_icmp .lt 8, 3) := by decide +kernel
theorem dX12_copyTick_90 : decode cX12_copyTick 90 = .ok (.aload_n 0, 1) := by decide +kernel
theorem dX12_copyTick_91 : decode cX12_copyTick 91 = .ok (.iload_n 1, 1) := by decide +kernel
theorem dX12_copyTick_92 : decode cX12_copyTick 92 = .ok (.invokevirtual 666, 3) := by decide +kernel
theorem dX12_copyTick_95 : decode cX12_copyTick 95 = .ok (.return_, 1) := by decide +kernel
theorem dX12_nodeTick_0 : decode cX12_nodeTick 0 = .ok (.iconst 0, 1) := by decide +kernel
theorem dX12_nodeTick_1 : decode cX12_nodeTick 1 = .ok (.istore_n 2, 1) := by decide +kernel
theorem dX12_nodeTick_2 : decode cX12_nodeTick 2 = .ok (.iload_n 2, 1) := by decide +kernel
theorem dX12_nodeTick_3 : decode cX12_nodeTick 3 = .ok (.aload_n 0, 1) := by decide +kernel
theorem dX12_nodeTick_4 : decode cX12_nodeTick 4 = .ok (.getfield 327, 3) := by decide +kernel
theorem dX12_nodeTick_7 : decode cX12_nodeTick 7 = .ok (.if_icmp .ge 28, 3) := by decide +kernel
theorem dX12_nodeTick_10 : decode cX12_nodeTick 10 = .ok (.aload_n 0, 1) := by decide +kernel
theorem dX12_nodeTick_11 : decode cX12_nodeTick 11 = .ok (.iload_n 1, 1) := by decide +kernel
theorem dX12_nodeTick_12 : decode cX12_nodeTick 12 = .ok (.iload_n 2, 1) := by decide +kernel
theorem dX12_nodeTick_13 : decode cX12_nodeTick 13 = .ok (.invokevirtual 352, 3) := by decide +kernel
theorem dX12_nodeTick_16 : decode cX12_nodeTick 16 = .ok (.ifCond .eq 13, 3) := by decide +kernel
theorem dX12_nodeTick_19 : decode cX12_nodeTick 19 = .ok (.aload_n 0, 1) := by decide +kernel
theorem dX12_nodeTick_20 : decode cX12_nodeTick 20 = .ok (.aload_n 0, 1) := by decide +kernel
theorem dX12_nodeTick_21 : decode cX12_nodeTick 21 = .ok (.iload_n 1, 1) := by decide +kernel
theorem dX12_nodeTick_22 : decode cX12_nodeTick 22 = .ok (.iload_n 2, 1) := by decide +kernel
theorem dX12_nodeTick_23 : decode cX12_nodeTick 23 = .ok (.invokevirtual 364, 3) := by decide +kernel
theorem dX12_nodeTick_26 : decode cX12_nodeTick 26 = .ok (.invokevirtual 693, 3) := by decide +kernel
theorem dX12_nodeTick_29 : decode cX12_nodeTick 29 = .ok (.iinc 2 1, 3) := by decide +kernel
theorem dX12_nodeTick_32 : decode cX12_nodeTick 32 = .ok (.goto (-30), 3) := by decide +kernel
theorem dX12_nodeTick_35 : decode cX12_nodeTick 35 = .ok (.aload_n 0, 1) := by decide +kernel
theorem dX12_nodeTick_36 : decode cX12_nodeTick 36 = .ok (.getfield 330, 3) := by decide +kernel
theorem dX12_nodeTick_39 : decode cX12_nodeTick 39 = .ok (.iconst 2, 1) := by decide +kernel
theorem dX12_nodeTick_40 : decode cX12_nodeTick 40 = .ok (.irem, 1) := by decide +kernel
theorem dX12_nodeTick_41 : decode cX12_nodeTick 41 = .ok (.ifCond .ne 123, 3) := by decide +kernel
theorem dX12_nodeTick_44 : decode cX12_nodeTick 44 = .ok (.aload_n 0, 1) := by decide +kernel
theorem dX12_nodeTick_45 : decode cX12_nodeTick 45 = .ok (.getfield 219, 3) := by decide +kernel
theorem dX12_nodeTick_48 : decode cX12_nodeTick 48 = .ok (.iconst 0, 1) := by decide +kernel
theorem dX12_nodeTick_49 : decode cX12_nodeTick 49 = .ok (.bipush 16, 2) := by decide +kernel
theorem dX12_nodeTick_51 : decode cX12_nodeTick 51 = .ok (.iastore, 1) := by decide +kernel
theorem dX12_nodeTick_52 : decode cX12_nodeTick 52 = .ok (.iconst 1, 1) := by decide +kernel
theorem dX12_nodeTick_53 : decode cX12_nodeTick 53 = .ok (.istore_n 2, 1) := by decide +kernel
theorem dX12_nodeTick_54 : decode cX12_nodeTick 54 = .ok (.iload_n 2, 1) := by decide +kernel
theorem dX12_nodeTick_55 : decode cX12_nodeTick 55 = .ok (.bipush 14, 2) := by decide +kernel
theorem dX12_nodeTick_57 : decode cX12_nodeTick 57 = .ok (.if_icmp .ge 16, 3) := by decide +kernel
theorem dX12_nodeTick_60 : decode cX12_nodeTick 60 = .ok (.aload_n 0, 1) := by decide +kernel
theorem dX12_nodeTick_61 : decode cX12_nodeTick 61 = .ok (.getfield 219, 3) := by decide +kernel
theorem dX12_nodeTick_64 : decode cX12_nodeTick 64 = .ok (.iload_n 2, 1) := by decide +kernel
theorem dX12_nodeTick_65 : decode cX12_nodeTick 65 = .ok (.iconst 0, 1) := by decide +kernel
theorem dX12_nodeTick_66 : decode cX12_nodeTick 66 = .ok (.iastore, 1) := by decide +kernel
theorem dX12_nodeTick_67 : decode cX12_nodeTick 67 = .ok (.iinc 2 1, 3) := by decide +kernel
theorem dX12_nodeTick_70 : decode cX12_nodeTick 70 = .ok (.goto (-16), 3) := by decide +kernel
theorem dX12_nodeTick_73 : decode cX12_nodeTick 73 = .ok (.iconst 0, 1) := by decide +kernel
theorem dX12_nodeTick_74 : decode cX12_nodeTick 74 = .ok (.istore_n 2, 1) := by decide +kernel
theorem dX12_nodeTick_75 : decode cX12_nodeTick 75 = .ok (.iload_n 2, 1) := by decide +kernel
theorem dX12_nodeTick_76 : decode cX12_nodeTick 76 = .ok (.aload_n 0, 1) := by decide +kernel
theorem dX12_nodeTick_77 : decode cX12_nodeTick 77 = .ok (.getfield 327, 3) := by decide +kernel
theorem dX12_nodeTick_80 : decode cX12_nodeTick 80 = .ok (.if_icmp .ge 73, 3) := by decide +kernel
theorem dX12_nodeTick_83 : decode cX12_nodeTick 83 = .ok (.aload_n 0, 1) := by decide +kernel
theorem dX12_nodeTick_84 : decode cX12_nodeTick 84 = .ok (.iload_n 1, 1) := by decide +kernel
theorem dX12_nodeTick_85 : decode cX12_nodeTick 85 = .ok (.iload_n 2, 1) := by decide +kernel
theorem dX12_nodeTick_86 : decode cX12_nodeTick 86 = .ok (.invokevirtual 352, 3) := by decide +kernel
theorem dX12_nodeTick_89 : decode cX12_nodeTick 89 = .ok (.ifCond .eq 58, 3) := by decide +kernel
theorem dX12_nodeTick_92 : decode cX12_nodeTick 92 = .ok (.aload_n 0, 1) := by decide +kernel
theorem dX12_nodeTick_93 : decode cX12_nodeTick 93 = .ok (.iload_n 1, 1) := by decide +kernel
theorem dX12_nodeTick_94 : decode cX12_nodeTick 94 = .ok (.iload_n 2, 1) := by decide +kernel
theorem dX12_nodeTick_95 : decode cX12_nodeTick 95 = .ok (.invokevirtual 364, 3) := by decide +kernel
theorem dX12_nodeTick_98 : decode cX12_nodeTick 98 = .ok (.istore_n 3, 1) := by decide +kernel
theorem dX12_nodeTick_99 : decode cX12_nodeTick 99 = .ok (.aload_n 0, 1) := by decide +kernel
theorem dX12_nodeTick_100 : decode cX12_nodeTick 100 = .ok (.getfield 219, 3) := by decide +kernel
theorem dX12_nodeTick_103 : decode cX12_nodeTick 103 = .ok (.bipush 6, 2) := by decide +kernel
theorem dX12_nodeTick_105 : decode cX12_nodeTick 105 = .ok (.iconst 2, 1) := by decide +kernel
theorem dX12_nodeTick_106 : decode cX12_nodeTick 106 = .ok (.iload_n 2, 1) := by decide +kernel
theorem dX12_nodeTick_107 : decode cX12_nodeTick 107 = .ok (.imul, 1) := by decide +kernel
theorem dX12_nodeTick_108 : decode cX12_nodeTick 108 = .ok (.iadd, 1) := by decide +kernel
theorem dX12_nodeTick_109 : decode cX12_nodeTick 109 = .ok (.aload_n 0, 1) := by decide +kernel
theorem dX12_nodeTick_110 : decode cX12_nodeTick 110 = .ok (.getfield 185, 3) := by decide +kernel
theorem dX12_nodeTick_113 : decode cX12_nodeTick 113 = .ok (.iload_n 3, 1) := by decide +kernel
theorem dX12_nodeTick_114 : decode cX12_nodeTick 114 = .ok (.iaload, 1) := by decide +kernel
theorem dX12_nodeTick_115 : decode cX12_nodeTick 115 = .ok (.iastore, 1) := by decide +kernel
theorem dX12_nodeTick_116 : decode cX12_nodeTick 116 = .ok (.aload_n 0, 1) := by decide +kernel
theorem dX12_nodeTick_117 : decode cX12_nodeTick 117 = .ok (.getfield 219, 3) := by decide +kernel
theorem dX12_nodeTick_120 : decode cX12_nodeTick 120 = .ok (.bipush 7, 2) := by decide +kernel
theorem dX12_nodeTick_122 : decode cX12_nodeTick 122 = .ok (.iconst 2, 1) := by decide +kernel
theorem dX12_nodeTick_123 : decode cX12_nodeTick 123 = .ok (.iload_n 2, 1) := by decide +kernel
theorem dX12_nodeTick_124 : decode cX12_nodeTick 124 = .ok (.imul, 1) := by decide +kernel
theorem dX12_nodeTick_125 : decode cX12_nodeTick 125 = .ok (.iadd, 1) := by decide +kernel
theorem dX12_nodeTick_126 : decode cX12_nodeTick 126 = .ok (.aload_n 0, 1) := by decide +kernel
theorem dX12_nodeTick_127 : decode cX12_nodeTick 127 = .ok (.getfield 140, 3) := by decide +kernel
theorem dX12_nodeTick_130 : decode cX12_nodeTick 130 = .ok (.iload_n 3, 1) := by decide +kernel
theorem dX12_nodeTick_131 : decode cX12_nodeTick 131 = .ok (.iaload, 1) := by decide +kernel
theorem dX12_nodeTick_132 : decode cX12_nodeTick 132 = .ok (.iconst 2, 1) := by decide +kernel
theorem dX12_nodeTick_133 : decode cX12_nodeTick 133 = .ok (.if_icmp .ne 12, 3) := by decide +kernel
theorem dX12_nodeTick_136 : decode cX12_nodeTick 136 = .ok (.aload_n 0, 1) := by decide +kernel
theorem dX12_nodeTick_137 : decode cX12_nodeTick 137 = .ok (.getfield 125, 3) := by decide +kernel
theorem dX12_nodeTick_140 : decode cX12_nodeTick 140 = .ok (.iload_n 3, 1) := by decide +kernel
theorem dX12_nodeTick_141 : decode cX12_nodeTick 141 = .ok (.iaload, 1) := by decide +kernel
theorem dX12_nodeTick_142 : decode cX12_nodeTick 142 = .ok (.goto 4, 3) := by decide +kernel
theorem dX12_nodeTick_145 : decode cX12_nodeTick 145 = .ok (.iconst 0, 1) := by decide +kernel
theorem dX12_nodeTick_146 : decode cX12_nodeTick 146 = .ok (.iastore, 1) := by decide +kernel
theorem dX12_nodeTick_147 : decode cX12_nodeTick 147 = .ok (.iinc 2 1, 3) := by decide +kernel
theorem dX12_nodeTick_150 : decode cX12_nodeTick 150 = .ok (.goto (-75), 3) := by decide +kernel
theorem dX12_nodeTick_153 : decode cX12_nodeTick 153 = .ok (.aload_n 0, 1) := by decide +kernel
theorem dX12_nodeTick_154 : decode cX12_nodeTick 154 = .ok (.iload_n 1, 1) := by decide +kernel
theorem dX12_nodeTick_155 : decode cX12_nodeTick 155 = .ok (.aload_n 0, 1) := by decide +kernel
theorem dX12_nodeTick_156 : decode cX12_nodeTick 156 = .ok (.getfield 321, 3) := by decide +kernel
theorem dX12_nodeTick_159 : decode cX12_nodeTick 159 = .ok (.bipush 14, 2) := by decide +kernel
theorem dX12_nodeTick_161 : decode cX12_nodeTick 161 = .ok (.invokevirtual 446, 3) := by decide +kernel
theorem dX12_nodeTick_164 : decode cX12_nodeTick 164 = .ok (.bipush 8, 2) := by decide +kernel
theorem dX12_nodeTick_166 : decode cX12_nodeTick 166 = .ok (.iload_n 1, 1) := by decide +kernel
theorem dX12_nodeTick_167 : decode cX12_nodeTick 167 = .ok (.imul, 1) := by decide +kernel
theorem dX12_nodeTick_168 : decode cX12_nodeTick 168 = .ok (.istore_n 2, 1) := by decide +kernel
theorem dX12_nodeTick_169 : decode cX12_nodeTick 169 = .ok (.iload_n 2, 1) := by decide +kernel
theorem dX12_nodeTick_170 : decode cX12_nodeTick 170 = .ok (.bipush 8, 2) := by decide +kernel
theorem dX12_nodeTick_172 : decode cX12_nodeTick 172 = .ok (.iload_n 1, 1) := by decide +kernel
theorem dX12_nodeTick_173 : decode cX12_nodeTick 173 = .ok (.imul, 1) := by decide +kernel
theorem dX12_nodeTick_174 : decode cX12_nodeTick 174 = .ok (.bipush 8, 2) := by decide +kernel
theorem dX12_nodeTick_176 : decode cX12_nodeTick 176 = .ok (.iadd, 1) := by decide +kernel
theorem dX12_nodeTick_177 : decode cX12_nodeTick 177 = .ok (.if_icmp .ge 45, 3) := by decide +kernel
theorem dX12_nodeTick_180 : decode cX12_nodeTick 180 = .ok (.aload_n 0, 1) := by decide +kernel
theorem dX12_nodeTick_181 : decode cX12_nodeTick 181 = .ok (.getfield 225, 3) := by decide +kernel
theorem dX12_nodeTick_184 : decode cX12_nodeTick 184 = .ok (.iload_n 2, 1) := by decide +kernel
theorem dX12_nodeTick_185 : decode cX12_nodeTick 185 = .ok (.aload_n 0, 1) := by decide +kernel
theorem dX12_nodeTick_186 : decode cX12_nodeTick 186 = .ok (.getfield 225, 3) := by decide +kernel
theorem dX12_nodeTick_189 : decode cX12_nodeTick 189 = .ok (.iload_n 2, 1) := by decide +kernel
theorem dX12_nodeTick_190 : decode cX12_nodeTick 190 = .ok (.baload, 1) := by decide +kernel
theorem dX12_nodeTick_191 : decode cX12_nodeTick 191 = .ok (.ifCond .eq 23, 3) := by decide +kernel
theorem dX12_nodeTick_194 : decode cX12_nodeTick 194 = .ok (.aload_n 0, 1) := by decide +kernel
theorem dX12_nodeTick_195 : decode cX12_nodeTick 195 = .ok (.getfield 330, 3) := by decide +kernel
theorem dX12_nodeTick_198 : decode cX12_nodeTick 198 = .ok (.aload_n 0, 1) := by decide +kernel
theorem dX12_nodeTick_199 : decode cX12_nodeTick 199 = .ok (.getfield 237, 3) := by decide +kernel
theorem dX12_nodeTick_202 : decode cX12_nodeTick 202 = .ok (.iload_n 2, 1) := by decide +kernel
theorem dX12_nodeTick_203 : decode cX12_nodeTick 203 = .ok (.iaload, 1) := by decide +kernel
theorem dX12_nodeTick_204 : decode cX12_nodeTick 204 = .ok (.isub, 1) := by decide +kernel
theorem dX12_nodeTick_205 : decode cX12_nodeTick 205 = .ok (.bipush 12, 2) := by decide +kernel
theorem dX12_nodeTick_207 : decode cX12_nodeTick 207 = .ok (.if_icmp .ge 7, 3) := by decide +kernel
theorem dX12_nodeTick_210 : decode cX12_nodeTick 210 = .ok (.iconst 1, 1) := by decide +kernel
theorem dX12_nodeTick_211 : decode cX12_nodeTick 211 = .ok (.goto 4, 3) := by decide +kernel
theorem dX12_nodeTick_214 : decode cX12_nodeTick 214 = .ok (.iconst 0, 1) := by decide +kernel
theorem dX12_nodeTick_215 : decode cX12_nodeTick 215 = .ok (.bastore, 1) := by decide +kernel
theorem dX12_nodeTick_216 : decode cX12_nodeTick 216 = .ok (.iinc 2 1, 3) := by decide +kernel
theorem dX12_nodeTick_219 : decode cX12_nodeTick 219 = .ok (.goto (-50), 3) := by decide +kernel
theorem dX12_nodeTick_222 : decode cX12_nodeTick 222 = .ok (.iconst 0, 1) := by decide +kernel
theorem dX12_nodeTick_223 : decode cX12_nodeTick 223 = .ok (.istore_n 2, 1) := by decide +kernel
theorem dX12_nodeTick_224 : decode cX12_nodeTick 224 = .ok (.iload_n 2, 1) := by decide +kernel
theorem dX12_nodeTick_225 : decode cX12_nodeTick 225 = .ok (.aload_n 0, 1) := by decide +kernel
theorem dX12_nodeTick_226 : decode cX12_nodeTick 226 = .ok (.getfield 333, 3) := by decide +kernel
theorem dX12_nodeTick_229 : decode cX12_nodeTick 229 = .ok (.if_icmp .ge 34, 3) := by decide +kernel
theorem dX12_nodeTick_232 : decode cX12_nodeTick 232 = .ok (.aload_n 0, 1) := by decide +kernel
theorem dX12_nodeTick_233 : decode cX12_nodeTick 233 = .ok (.getfield 19, 3) := by decide +kernel
theorem dX12_nodeTick_236 : decode cX12_nodeTick 236 = .ok (.iload_n 2, 1) := by decide +kernel
theorem dX12_nodeTick_237 : decode cX12_nodeTick 237 = .ok (.iaload, 1) := by decide +kernel
theorem dX12_nodeTick_238 : decode cX12_nodeTick 238 = .ok (.iload_n 1, 1) := by decide +kernel
theorem dX12_nodeTick_239 : decode cX12_nodeTick 239 = .ok (.if_icmp .ne 18, 3) := by decide +kernel
theorem dX12_nodeTick_242 : decode cX12_nodeTick 242 = .ok (.aload_n 0, 1) := by decide +kernel
theorem dX12_nodeTick_243 : decode cX12_nodeTick 243 = .ok (.getfield 22, 3) := by decide +kernel
theorem dX12_nodeTick_246 : decode cX12_nodeTick 246 = .ok (.iload_n 2, 1) := by decide +kernel
theorem dX12_nodeTick_247 : decode cX12_nodeTick 247 = .ok (.iaload, 1) := by decide +kernel
theorem dX12_nodeTick_248 : decode cX12_nodeTick 248 = .ok (.ifCond .ne 9, 3) := by decide +kernel
theorem dX12_nodeTick_251 : decode cX12_nodeTick 251 = .ok (.aload_n 0, 1) := by decide +kernel
theorem dX12_nodeTick_252 : decode cX12_nodeTick 252 = .ok (.iload_n 2, 1) := by decide +kernel
theorem dX12_nodeTick_253 : decode cX12_nodeTick 253 = .ok (.iload_n 1, 1) := by decide +kernel
theorem dX12_nodeTick_254 : decode cX12_nodeTick 254 = .ok (.invokevirtual 696, 3) := by decide +kernel
theorem dX12_nodeTick_257 : decode cX12_nodeTick 257 = .ok (.iinc 2 1, 3) := by decide +kernel
theorem dX12_nodeTick_260 : decode cX12_nodeTick 260 = .ok (.goto (-36), 3) := by decide +kernel
theorem dX12_nodeTick_263 : decode cX12_nodeTick 263 = .ok (.return_, 1) := by decide +kernel
theorem dX12_requestTick_0 : decode cX12_requestTick 0 = .ok (.aload_n 0, 1) := by decide +kernel
theorem dX12_requestTick_1 : decode cX12_requestTick 1 = .ok (.getfield 330, 3) := by decide +kernel
theorem dX12_requestTick_4 : decode cX12_requestTick 4 = .ok (.aload_n 0, 1) := by decide +kernel
theorem dX12_requestTick_5 : decode cX12_requestTick 5 = .ok (.getfield 25, 3) := by decide +kernel
theorem dX12_requestTick_8 : decode cX12_requestTick 8 = .ok (.iload_n 1, 1) := by decide +kernel
theorem dX12_requestTick_9 : decode cX12_requestTick 9 = .ok (.iaload, 1) := by decide +kernel
theorem dX12_requestTick_10 : decode cX12_requestTick 10 = .ok (.isub, 1) := by decide +kernel
theorem dX12_requestTick_11 : decode cX12_requestTick 11 = .ok (.bipush 40, 2) := by decide +kernel
theorem dX12_requestTick_13 : decode cX12_requestTick 13 = .ok (.if_icmp .ne 13, 3) := by decide +kernel
theorem dX12_requestTick_16 : decode cX12_requestTick 16 = .ok (.aload_n 0, 1) := by decide +kernel
theorem dX12_requestTick_17 : decode cX12_requestTick 17 = .ok (.getfield 22, 3) := by decide +kernel
theorem dX12_requestTick_20 : decode cX12_requestTick 20 = .ok (.iload_n 1, 1) := by decide +kernel
theorem dX12_requestTick_21 : decode cX12_requestTick 21 = .ok (.iconst 2, 1) := by decide +kernel
theorem dX12_requestTick_22 : decode cX12_requestTick 22 = .ok (.iastore, 1) := by decide +kernel
theorem dX12_requestTick_23 : decode cX12_requestTick 23 = .ok (.goto 63, 3) := by decide +kernel
theorem dX12_requestTick_26 : decode cX12_requestTick 26 = .ok (.aload_n 0, 1) := by decide +kernel
theorem dX12_requestTick_27 : decode cX12_requestTick 27 = .ok (.getfield 330, 3) := by decide +kernel
theorem dX12_requestTick_30 : decode cX12_requestTick 30 = .ok (.aload_n 0, 1) := by decide +kernel
theorem dX12_requestTick_31 : decode cX12_requestTick 31 = .ok (.getfield 28, 3) := by decide +kernel
theorem dX12_requestTick_34 : decode cX12_requestTick 34 = .ok (.iload_n 1, 1) := by decide +kernel
theorem dX12_requestTick_35 : decode cX12_requestTick 35 = .ok (.iaload, 1) := by decide +kernel
theorem dX12_requestTick_36 : decode cX12_requestTick 36 = .ok (.isub, 1) := by decide +kernel
theorem dX12_requestTick_37 : decode cX12_requestTick 37 = .ok (.bipush 8, 2) := by decide +kernel
theorem dX12_requestTick_39 : decode cX12_requestTick 39 = .ok (.if_icmp .lt 47, 3) := by decide +kernel
theorem dX12_requestTick_42 : decode cX12_requestTick 42 = .ok (.aload_n 0, 1) := by decide +kernel
theorem dX12_requestTick_43 : decode cX12_requestTick 43 = .ok (.getfield 31, 3) := by decide +kernel
theorem dX12_requestTick_46 : decode cX12_requestTick 46 = .ok (.iload_n 1, 1) := by decide +kernel
theorem dX12_requestTick_47 : decode cX12_requestTick 47 = .ok (.dup2, 1) := by decide +kernel
theorem dX12_requestTick_48 : decode cX12_requestTick 48 = .ok (.iaload, 1) := by decide +kernel
theorem dX12_requestTick_49 : decode cX12_requestTick 49 = .ok (.iconst 1, 1) := by decide +kernel
theorem dX12_requestTick_50 : decode cX12_requestTick 50 = .ok (.iadd, 1) := by decide +kernel
theorem dX12_requestTick_51 : decode cX12_requestTick 51 = .ok (.iastore, 1) := by decide +kernel
theorem dX12_requestTick_52 : decode cX12_requestTick 52 = .ok (.aload_n 0, 1) := by decide +kernel
theorem dX12_requestTick_53 : decode cX12_requestTick 53 = .ok (.getfield 28, 3) := by decide +kernel
theorem dX12_requestTick_56 : decode cX12_requestTick 56 = .ok (.iload_n 1, 1) := by decide +kernel
theorem dX12_requestTick_57 : decode cX12_requestTick 57 = .ok (.aload_n 0, 1) := by decide +kernel
theorem dX12_requestTick_58 : decode cX12_requestTick 58 = .ok (.getfield 330, 3) := by decide +kernel
theorem dX12_requestTick_61 : decode cX12_requestTick 61 = .ok (.iastore, 1) := by decide +kernel
theorem dX12_requestTick_62 : decode cX12_requestTick 62 = .ok (.aload_n 0, 1) := by decide +kernel
theorem dX12_requestTick_63 : decode cX12_requestTick 63 = .ok (.getfield 34, 3) := by decide +kernel
theorem dX12_requestTick_66 : decode cX12_requestTick 66 = .ok (.iload_n 1, 1) := by decide +kernel
theorem dX12_requestTick_67 : decode cX12_requestTick 67 = .ok (.iconst 0, 1) := by decide +kernel
theorem dX12_requestTick_68 : decode cX12_requestTick 68 = .ok (.bastore, 1) := by decide +kernel
theorem dX12_requestTick_69 : decode cX12_requestTick 69 = .ok (.aload_n 0, 1) := by decide +kernel
theorem dX12_requestTick_70 : decode cX12_requestTick 70 = .ok (.iload_n 2, 1) := by decide +kernel
theorem dX12_requestTick_71 : decode cX12_requestTick 71 = .ok (.aload_n 0, 1) := by decide +kernel
theorem dX12_requestTick_72 : decode cX12_requestTick 72 = .ok (.getfield 321, 3) := by decide +kernel
theorem dX12_requestTick_75 : decode cX12_requestTick 75 = .ok (.iconst 1, 1) := by decide +kernel
theorem dX12_requestTick_76 : decode cX12_requestTick 76 = .ok (.iload_n 1, 1) := by decide +kernel
theorem dX12_requestTick_77 : decode cX12_requestTick 77 = .ok (.aload_n 0, 1) := by decide +kernel
theorem dX12_requestTick_78 : decode cX12_requestTick 78 = .ok (.getfield 31, 3) := by decide +kernel
theorem dX12_requestTick_81 : decode cX12_requestTick 81 = .ok (.iload_n 1, 1) := by decide +kernel
theorem dX12_requestTick_82 : decode cX12_requestTick 82 = .ok (.iaload, 1) := by decide +kernel
theorem dX12_requestTick_83 : decode cX12_requestTick 83 = .ok (.invokevirtual 589, 3) := by decide +kernel
theorem dX12_requestTick_86 : decode cX12_requestTick 86 = .ok (.return_, 1) := by decide +kernel
theorem dX12_doTick_0 : decode cX12_doTick 0 = .ok (.aload_n 0, 1) := by decide +kernel
theorem dX12_doTick_1 : decode cX12_doTick 1 = .ok (.dup, 1) := by decide +kernel
theorem dX12_doTick_2 : decode cX12_doTick 2 = .ok (.getfield 330, 3) := by decide +kernel
theorem dX12_doTick_5 : decode cX12_doTick 5 = .ok (.iconst 1, 1) := by decide +kernel
theorem dX12_doTick_6 : decode cX12_doTick 6 = .ok (.iadd, 1) := by decide +kernel
theorem dX12_doTick_7 : decode cX12_doTick 7 = .ok (.putfield 330, 3) := by decide +kernel
theorem dX12_doTick_10 : decode cX12_doTick 10 = .ok (.iconst 0, 1) := by decide +kernel
theorem dX12_doTick_11 : decode cX12_doTick 11 = .ok (.istore_n 1, 1) := by decide +kernel
theorem dX12_doTick_12 : decode cX12_doTick 12 = .ok (.iload_n 1, 1) := by decide +kernel
theorem dX12_doTick_13 : decode cX12_doTick 13 = .ok (.aload_n 0, 1) := by decide +kernel
theorem dX12_doTick_14 : decode cX12_doTick 14 = .ok (.getfield 321, 3) := by decide +kernel
theorem dX12_doTick_17 : decode cX12_doTick 17 = .ok (.if_icmp .ge 23, 3) := by decide +kernel
theorem dX12_doTick_20 : decode cX12_doTick 20 = .ok (.aload_n 0, 1) := by decide +kernel
theorem dX12_doTick_21 : decode cX12_doTick 21 = .ok (.getfield 77, 3) := by decide +kernel
theorem dX12_doTick_24 : decode cX12_doTick 24 = .ok (.iload_n 1, 1) := by decide +kernel
theorem dX12_doTick_25 : decode cX12_doTick 25 = .ok (.baload, 1) := by decide +kernel
theorem dX12_doTick_26 : decode cX12_doTick 26 = .ok (.ifCond .eq 8, 3) := by decide +kernel
theorem dX12_doTick_29 : decode cX12_doTick 29 = .ok (.aload_n 0, 1) := by decide +kernel
theorem dX12_doTick_30 : decode cX12_doTick 30 = .ok (.iload_n 1, 1) := by decide +kernel
theorem dX12_doTick_31 : decode cX12_doTick 31 = .ok (.invokevirtual 699, 3) := by decide +kernel
theorem dX12_doTick_34 : decode cX12_doTick 34 = .ok (.iinc 1 1, 3) := by decide +kernel
theorem dX12_doTick_37 : decode cX12_doTick 37 = .ok (.goto (-25), 3) := by decide +kernel
theorem dX12_doTick_40 : decode cX12_doTick 40 = .ok (.aload_n 0, 1) := by decide +kernel
theorem dX12_doTick_41 : decode cX12_doTick 41 = .ok (.getfield 77, 3) := by decide +kernel
theorem dX12_doTick_44 : decode cX12_doTick 44 = .ok (.aload_n 0, 1) := by decide +kernel
theorem dX12_doTick_45 : decode cX12_doTick 45 = .ok (.getfield 321, 3) := by decide +kernel
theorem dX12_doTick_48 : decode cX12_doTick 48 = .ok (.baload, 1) := by decide +kernel
theorem dX12_doTick_49 : decode cX12_doTick 49 = .ok (.ifCond .eq 7, 3) := by decide +kernel
theorem dX12_doTick_52 : decode cX12_doTick 52 = .ok (.aload_n 0, 1) := by decide +kernel
theorem dX12_doTick_53 : decode cX12_doTick 53 = .ok (.invokevirtual 702, 3) := by decide +kernel
theorem dX12_doTick_56 : decode cX12_doTick 56 = .ok (.aload_n 0, 1) := by decide +kernel
theorem dX12_doTick_57 : decode cX12_doTick 57 = .ok (.getfield 330, 3) := by decide +kernel
theorem dX12_doTick_60 : decode cX12_doTick 60 = .ok (.ireturn, 1) := by decide +kernel
theorem dX12_handle_0 : decode cX12_handle 0 = .ok (.aload_n 0, 1) := by decide +kernel
theorem dX12_handle_1 : decode cX12_handle 1 = .ok (.getfield 222, 3) := by decide +kernel
theorem dX12_handle_4 : decode cX12_handle 4 = .ok (.iconst 0, 1) := by decide +kernel
theorem dX12_handle_5 : decode cX12_handle 5 = .ok (.iaload, 1) := by decide +kernel
theorem dX12_handle_6 : decode cX12_handle 6 = .ok (.tableswitch 255 1 13 #[66, 74, 82, 91, 143, 186, 195, 204, 213, 222, 231, 239, 247], 66) := by decide +kernel
theorem dX12_handle_72 : decode cX12_handle 72 = .ok (.aload_n 0, 1) := by decide +kernel
theorem dX12_handle_73 : decode cX12_handle 73 = .ok (.iload_n 2, 1) := by decide +kernel
theorem dX12_handle_74 : decode cX12_handle 74 = .ok (.invokevirtual 705, 3) := by decide +kernel
theorem dX12_handle_77 : decode cX12_handle 77 = .ok (.goto 190, 3) := by decide +kernel
theorem dX12_handle_80 : decode cX12_handle 80 = .ok (.aload_n 0, 1) := by decide +kernel
theorem dX12_handle_81 : decode cX12_handle 81 = .ok (.iload_n 1, 1) := by decide +kernel
theorem dX12_handle_82 : decode cX12_handle 82 = .ok (.invokevirtual 708, 3) := by decide +kernel
theorem dX12_handle_85 : decode cX12_handle 85 = .ok (.goto 182, 3) := by decide +kernel
theorem dX12_handle_88 : decode cX12_handle 88 = .ok (.aload_n 0, 1) := by decide +kernel
theorem dX12_handle_89 : decode cX12_handle 89 = .ok (.iload_n 1, 1) := by decide +kernel
theorem dX12_handle_90 : decode cX12_handle 90 = .ok (.iload_n 2, 1) := by decide +kernel
theorem dX12_handle_91 : decode cX12_handle 91 = .ok (.invokevirtual 711, 3) := by decide +kernel
theorem dX12_handle_94 : decode cX12_handle 94 = .ok (.goto 173, 3) := by decide +kernel
theorem dX12_handle_97 : decode cX12_handle 97 = .ok (.aload_n 0, 1) := by decide +kernel
theorem dX12_handle_98 : decode cX12_handle 98 = .ok (.getfield 34, 3) := by decide +kernel
theorem dX12_handle_101 : decode cX12_handle 101 = .ok (.aload_n 0, 1) := by decide +kernel
theorem dX12_handle_102 : decode cX12_handle 102 = .ok (.getfield 222, 3) := by decide +kernel
theorem dX12_handle_105 : decode cX12_handle 105 = .ok (.iconst 1, 1) := by decide +kernel
theorem dX12_handle_106 : decode cX12_handle 106 = .ok (.iaload, 1) := by decide +kernel
theorem dX12_handle_107 : decode cX12_handle 107 = .ok (.aload_n 0, 1) := by decide +kernel
theorem dX12_handle_108 : decode cX12_handle 108 = .ok (.getfield 34, 3) := by decide +kernel
theorem dX12_handle_111 : decode cX12_handle 111 = .ok (.aload_n 0, 1) := by decide +kernel
theorem dX12_handle_112 : decode cX12_handle 112 = .ok (.getfield 222, 3) := by decide +kernel
theorem dX12_handle_115 : decode cX12_handle 115 = .ok (.iconst 1, 1) := by decide +kernel
theorem dX12_handle_116 : decode cX12_handle 116 = .ok (.iaload, 1) := by decide +kernel
theorem dX12_handle_117 : decode cX12_handle 117 = .ok (.baload, 1) := by decide +kernel
theorem dX12_handle_118 : decode cX12_handle 118 = .ok (.ifCond .ne 22, 3) := by decide +kernel
theorem dX12_handle_121 : decode cX12_handle 121 = .ok (.aload_n 0, 1) := by decide +kernel
theorem dX12_handle_122 : decode cX12_handle 122 = .ok (.aload_n 0, 1) := by decide +kernel
theorem dX12_handle_123 : decode cX12_handle 123 = .ok (.getfield 222, 3) := by decide +kernel
theorem dX12_handle_126 : decode cX12_handle 126 = .ok (.iconst 1, 1) := by decide +kernel
theorem dX12_handle_127 : decode cX12_handle 127 = .ok (.iaload, 1) := by decide +kernel
theorem dX12_handle_128 : decode cX12_handle 128 = .ok (.aload_n 0, 1) := by decide +kernel
theorem dX12_handle_129 : decode cX12_handle 129 = .ok (.getfield 222, 3) := by decide +kernel
theorem dX12_handle_132 : decode cX12_handle 132 = .ok (.iconst 2, 1) := by decide +kernel
theorem dX12_handle_133 : decode cX12_handle 133 = .ok (.iaload, 1) := by decide +kernel
theorem dX12_handle_134 : decode cX12_handle 134 = .ok (.invokevirtual 626, 3) := by decide +kernel
theorem dX12_handle_137 : decode cX12_handle 137 = .ok (.ifCond .eq 7, 3) := by decide +kernel
theorem dX12_handle_140 : decode cX12_handle 140 = .ok (.iconst 1, 1) := by decide +kernel
theorem dX12_handle_141 : decode cX12_handle 141 = .ok (.goto 4, 3) := by decide +kernel
theorem dX12_handle_144 : decode cX12_handle 144 = .ok (.iconst 0, 1) := by decide +kernel
theorem dX12_handle_145 : decode cX12_handle 145 = .ok (.bastore, 1) := by decide +kernel
theorem dX12_handle_146 : decode cX12_handle 146 = .ok (.goto 121, 3) := by decide +kernel
theorem dX12_handle_149 : decode cX12_handle 149 = .ok (.aload_n 0, 1) := by decide +kernel
theorem dX12_handle_150 : decode cX12_handle 150 = .ok (.getfield 22, 3) := by decide +kernel
theorem dX12_handle_153 : decode cX12_handle 153 = .ok (.aload_n 0, 1) := by decide +kernel
theorem dX12_handle_154 : decode cX12_handle 154 = .ok (.getfield 222, 3) := by decide +kernel
theorem dX12_handle_157 : decode cX12_handle 157 = .ok (.iconst 1, 1) := by decide +kernel
theorem dX12_handle_158 : decode cX12_handle 158 = .ok (.iaload, 1) := by decide +kernel
theorem dX12_handle_159 : decode cX12_handle 159 = .ok (.aload_n 0, 1) := by decide +kernel
theorem dX12_handle_160 : decode cX12_handle 160 = .ok (.getfield 22, 3) := by decide +kernel
theorem dX12_handle_163 : decode cX12_handle 163 = .ok (.aload_n 0, 1) := by decide +kernel
theorem dX12_handle_164 : decode cX12_handle 164 = .ok (.getfield 222, 3) := by decide +kernel
theorem dX12_handle_167 : decode cX12_handle 167 = .ok (.iconst 1, 1) := by decide +kernel
theorem dX12_handle_168 : decode cX12_handle 168 = .ok (.iaload, 1) := by decide +kernel
theorem dX12_handle_169 : decode cX12_handle 169 = .ok (.iaload, 1) := by decide +kernel
theorem dX12_handle_170 : decode cX12_handle 170 = .ok (.ifCond .ne 7, 3) := by decide +kernel
theorem dX12_handle_173 : decode cX12_handle 173 = .ok (.iconst 1, 1) := by decide +kernel
theorem dX12_handle_174 : decode cX12_handle 174 = .ok (.goto 14, 3) := by decide +kernel
theorem dX12_handle_177 : decode cX12_handle 177 = .ok (.aload_n 0, 1) := by decide +kernel
theorem dX12_handle_178 : decode cX12_handle 178 = .ok (.getfield 22, 3) := by decide +kernel
theorem dX12_handle_181 : decode cX12_handle 181 = .ok (.aload_n 0, 1) := by decide +kernel
theorem dX12_handle_182 : decode cX12_handle 182 = .ok (.getfield 222, 3) := by decide +kernel
theorem dX12_handle_185 : decode cX12_handle 185 = .ok (.iconst 1, 1) := by decide +kernel
theorem dX12_handle_186 : decode cX12_handle 186 = .ok (.iaload, 1) := by decide +kernel
theorem dX12_handle_187 : decode cX12_handle 187 = .ok (.iaload, 1) := by decide +kernel
theorem dX12_handle_188 : decode cX12_handle 188 = .ok (.iastore, 1) := by decide +kernel
theorem dX12_handle_189 : decode cX12_handle 189 = .ok (.goto 78, 3) := by decide +kernel
theorem dX12_handle_192 : decode cX12_handle 192 = .ok (.aload_n 0, 1) := by decide +kernel
theorem dX12_handle_193 : decode cX12_handle 193 = .ok (.iload_n 1, 1) := by decide +kernel
theorem dX12_handle_194 : decode cX12_handle 194 = .ok (.iload_n 2, 1) := by decide +kernel
theorem dX12_handle_195 : decode cX12_handle 195 = .ok (.invokevirtual 714, 3) := by decide +kernel
theorem dX12_handle_198 : decode cX12_handle 198 = .ok (.goto 69, 3) := by decide +kernel
theorem dX12_handle_201 : decode cX12_handle 201 = .ok (.aload_n 0, 1) := by decide +kernel
theorem dX12_handle_202 : decode cX12_handle 202 = .ok (.iload_n 1, 1) := by decide +kernel
theorem dX12_handle_203 : decode cX12_handle 203 = .ok (.iload_n 2, 1) := by decide +kernel
theorem dX12_handle_204 : decode cX12_handle 204 = .ok (.invokevirtual 717, 3) := by decide +kernel
theorem dX12_handle_207 : decode cX12_handle 207 = .ok (.goto 60, 3) := by decide +kernel
theorem dX12_handle_210 : decode cX12_handle 210 = .ok (.aload_n 0, 1) := by decide +kernel
theorem dX12_handle_211 : decode cX12_handle 211 = .ok (.iload_n 1, 1) := by decide +kernel
theorem dX12_handle_212 : decode cX12_handle 212 = .ok (.iload_n 2, 1) := by decide +kernel
theorem dX12_handle_213 : decode cX12_handle 213 = .ok (.invokevirtual 720, 3) := by decide +kernel
theorem dX12_handle_216 : decode cX12_handle 216 = .ok (.goto 51, 3) := by decide +kernel
theorem dX12_handle_219 : decode cX12_handle 219 = .ok (.aload_n 0, 1) := by decide +kernel
theorem dX12_handle_220 : decode cX12_handle 220 = .ok (.iload_n 1, 1) := by decide +kernel
theorem dX12_handle_221 : decode cX12_handle 221 = .ok (.iload_n 2, 1) := by decide +kernel
theorem dX12_handle_222 : decode cX12_handle 222 = .ok (.invokevirtual 723, 3) := by decide +kernel
theorem dX12_handle_225 : decode cX12_handle 225 = .ok (.goto 42, 3) := by decide +kernel
theorem dX12_handle_228 : decode cX12_handle 228 = .ok (.aload_n 0, 1) := by decide +kernel
theorem dX12_handle_229 : decode cX12_handle 229 = .ok (.iload_n 1, 1) := by decide +kernel
theorem dX12_handle_230 : decode cX12_handle 230 = .ok (.iload_n 2, 1) := by decide +kernel
theorem dX12_handle_231 : decode cX12_handle 231 = .ok (.invokevirtual 726, 3) := by decide +kernel
theorem dX12_handle_234 : decode cX12_handle 234 = .ok (.goto 33, 3) := by decide +kernel
theorem dX12_handle_237 : decode cX12_handle 237 = .ok (.aload_n 0, 1) := by decide +kernel
theorem dX12_handle_238 : decode cX12_handle 238 = .ok (.iload_n 2, 1) := by decide +kernel
theorem dX12_handle_239 : decode cX12_handle 239 = .ok (.invokevirtual 729, 3) := by decide +kernel
theorem dX12_handle_242 : decode cX12_handle 242 = .ok (.goto 25, 3) := by decide +kernel
theorem dX12_handle_245 : decode cX12_handle 245 = .ok (.aload_n 0, 1) := by decide +kernel
theorem dX12_handle_246 : decode cX12_handle 246 = .ok (.iload_n 2, 1) := by decide +kernel
theorem dX12_handle_247 : decode cX12_handle 247 = .ok (.invokevirtual 732, 3) := by decide +kernel
theorem dX12_handle_250 : decode cX12_handle 250 = .ok (.goto 17, 3) := by decide +kernel
theorem dX12_handle_253 : decode cX12_handle 253 = .ok (.aload_n 0, 1) := by decide +kernel
theorem dX12_handle_254 : decode cX12_handle 254 = .ok (.iload_n 1, 1) := by decide +kernel
theorem dX12_handle_255 : decode cX12_handle 255 = .ok (.invokevirtual 735, 3) := by decide +kernel
theorem dX12_handle_258 : decode cX12_handle 258 = .ok (.goto 9, 3) := by decide +kernel
theorem dX12_handle_261 : decode cX12_handle 261 = .ok (.aload_n 0, 1) := by decide +kernel
theorem dX12_handle_262 : decode cX12_handle 262 = .ok (.iload_n 1, 1) := by decide +kernel
theorem dX12_handle_263 : decode cX12_handle 263 = .ok (.iload_n 2, 1) := by decide +kernel
theorem dX12_handle_264 : decode cX12_handle 264 = .ok (.invokevirtual 738, 3) := by decide +kernel
theorem dX12_handle_267 : decode cX12_handle 267 = .ok (.return_, 1) := by decide +kernel
theorem dX12_handleOther_0 : decode cX12_handleOther 0 = .ok (.aload_n 0, 1) := by decide +kernel
theorem dX12_handleOther_1 : decode cX12_handleOther 1 = .ok (.getfield 222, 3) := by decide +kernel
theorem dX12_handleOther_4 : decode cX12_handleOther 4 = .ok (.iconst 0, 1) := by decide +kernel
theorem dX12_handleOther_5 : decode cX12_handleOther 5 = .ok (.iaload, 1) := by decide +kernel
theorem dX12_handleOther_6 : decode cX12_handleOther 6 = .ok (.tableswitch 141 14 21 #[46, 54, 54, 78, 87, 96, 123, 132], 46) := by decide +kernel
theorem dX12_handleOther_52 : decode cX12_handleOther 52 = .ok (.aload_n 0, 1) := by decide +kernel
theorem dX12_handleOther_53 : decode cX12_handleOther 53 = .ok (.iload_n 1, 1) := by decide +kernel
theorem dX12_handleOther_54 : decode cX12_handleOther 54 = .ok (.invokevirtual 741, 3) := by decide +kernel
theorem dX12_handleOther_57 : decode cX12_handleOther 57 = .ok (.goto 95, 3) := by decide +kernel
theorem dX12_handleOther_60 : decode cX12_handleOther 60 = .ok (.aload_n 0, 1) := by decide +kernel
theorem dX12_handleOther_61 : decode cX12_handleOther 61 = .ok (.iload_n 2, 1) := by decide +kernel
theorem dX12_handleOther_62 : decode cX12_handleOther 62 = .ok (.aload_n 0, 1) := by decide +kernel
theorem dX12_handleOther_63 : decode cX12_handleOther 63 = .ok (.getfield 222, 3) := by decide +kernel
theorem dX12_handleOther_66 : decode cX12_handleOther 66 = .ok (.iconst 0, 1) := by decide +kernel
theorem dX12_handleOther_67 : decode cX12_handleOther 67 = .ok (.iaload, 1) := by decide +kernel
theorem dX12_handleOther_68 : decode cX12_handleOther 68 = .ok (.bipush 15, 2) := by decide +kernel
theorem dX12_handleOther_70 : decode cX12_handleOther 70 = .ok (.if_icmp .ne 7, 3) := by decide +kernel
theorem dX12_handleOther_73 : decode cX12_handleOther 73 = .ok (.iconst 1, 1) := by decide +kernel
theorem dX12_handleOther_74 : decode cX12_handleOther 74 = .ok (.goto 4, 3) := by decide +kernel
theorem dX12_handleOther_77 : decode cX12_handleOther 77 = .ok (.iconst 0, 1) := by decide +kernel
theorem dX12_handleOther_78 : decode cX12_handleOther 78 = .ok (.invokevirtual 744, 3) := by decide +kernel
theorem dX12_handleOther_81 : decode cX12_handleOther 81 = .ok (.goto 71, 3) := by decide +kernel
theorem dX12_handleOther_84 : decode cX12_handleOther 84 = .ok (.aload_n 0, 1) := by decide +kernel
theorem dX12_handleOther_85 : decode cX12_handleOther 85 = .ok (.iload_n 1, 1) := by decide +kernel
theorem dX12_handleOther_86 : decode cX12_handleOther 86 = .ok (.iload_n 2, 1) := by decide +kernel
theorem dX12_handleOther_87 : decode cX12_handleOther 87 = .ok (.invokevirtual 748, 3) := by decide +kernel
theorem dX12_handleOther_90 : decode cX12_handleOther 90 = .ok (.goto 62, 3) := by decide +kernel
theorem dX12_handleOther_93 : decode cX12_handleOther 93 = .ok (.aload_n 0, 1) := by decide +kernel
theorem dX12_handleOther_94 : decode cX12_handleOther 94 = .ok (.iload_n 1, 1) := by decide +kernel
theorem dX12_handleOther_95 : decode cX12_handleOther 95 = .ok (.iload_n 2, 1) := by decide +kernel
theorem dX12_handleOther_96 : decode cX12_handleOther 96 = .ok (.invokevirtual 751, 3) := by decide +kernel
theorem dX12_handleOther_99 : decode cX12_handleOther 99 = .ok (.goto 53, 3) := by decide +kernel
theorem dX12_handleOther_102 : decode cX12_handleOther 102 = .ok (.aload_n 0, 1) := by decide +kernel
theorem dX12_handleOther_103 : decode cX12_handleOther 103 = .ok (.iload_n 1, 1) := by decide +kernel
theorem dX12_handleOther_104 : decode cX12_handleOther 104 = .ok (.iload_n 2, 1) := by decide +kernel
theorem dX12_handleOther_105 : decode cX12_handleOther 105 = .ok (.aload_n 0, 1) := by decide +kernel
theorem dX12_handleOther_106 : decode cX12_handleOther 106 = .ok (.getfield 222, 3) := by decide +kernel
theorem dX12_handleOther_109 : decode cX12_handleOther 109 = .ok (.iconst 1, 1) := by decide +kernel
theorem dX12_handleOther_110 : decode cX12_handleOther 110 = .ok (.iaload, 1) := by decide +kernel
theorem dX12_handleOther_111 : decode cX12_handleOther 111 = .ok (.aload_n 0, 1) := by decide +kernel
theorem dX12_handleOther_112 : decode cX12_handleOther 112 = .ok (.getfield 222, 3) := by decide +kernel
theorem dX12_handleOther_115 : decode cX12_handleOther 115 = .ok (.iconst 2, 1) := by decide +kernel
theorem dX12_handleOther_116 : decode cX12_handleOther 116 = .ok (.iaload, 1) := by decide +kernel
theorem dX12_handleOther_117 : decode cX12_handleOther 117 = .ok (.aload_n 0, 1) := by decide +kernel
theorem dX12_handleOther_118 : decode cX12_handleOther 118 = .ok (.getfield 222, 3) := by decide +kernel
theorem dX12_handleOther_121 : decode cX12_handleOther 121 = .ok (.iconst 3, 1) := by decide +kernel
theorem dX12_handleOther_122 : decode cX12_handleOther 122 = .ok (.iaload, 1) := by decide +kernel
theorem dX12_handleOther_123 : decode cX12_handleOther 123 = .ok (.invokevirtual 754, 3) := by decide +kernel
theorem dX12_handleOther_126 : decode cX12_handleOther 126 = .ok (.goto 26, 3) := by decide +kernel
theorem dX12_handleOther_129 : decode cX12_handleOther 129 = .ok (.aload_n 0, 1) := by decide +kernel
theorem dX12_handleOther_130 : decode cX12_handleOther 130 = .ok (.iload_n 1, 1) := by decide +kernel
theorem dX12_handleOther_131 : decode cX12_handleOther 131 = .ok (.iload_n 2, 1) := by decide +kernel
theorem dX12_handleOther_132 : decode cX12_handleOther 132 = .ok (.invokevirtual 757, 3) := by decide +kernel
theorem dX12_handleOther_135 : decode cX12_handleOther 135 = .ok (.goto 17, 3) := by decide +kernel
theorem dX12_handleOther_138 : decode cX12_handleOther 138 = .ok (.aload_n 0, 1) := by decide +kernel
theorem dX12_handleOther_139 : decode cX12_handleOther 139 = .ok (.iload_n 1, 1) := by decide +kernel
theorem dX12_handleOther_140 : decode cX12_handleOther 140 = .ok (.iload_n 2, 1) := by decide +kernel
theorem dX12_handleOther_141 : decode cX12_handleOther 141 = .ok (.invokevirtual 760, 3) := by decide +kernel
theorem dX12_handleOther_144 : decode cX12_handleOther 144 = .ok (.goto 8, 3) := by decide +kernel
theorem dX12_handleOther_147 : decode cX12_handleOther 147 = .ok (.aload_n 0, 1) := by decide +kernel
theorem dX12_handleOther_148 : decode cX12_handleOther 148 = .ok (.iload_n 1, 1) := by decide +kernel
theorem dX12_handleOther_149 : decode cX12_handleOther 149 = .ok (.invokevirtual 763, 3) := by decide +kernel
theorem dX12_handleOther_152 : decode cX12_handleOther 152 = .ok (.return_, 1) := by decide +kernel
theorem dX12_wanted_0 : decode cX12_wanted 0 = .ok (.aload_n 0, 1) := by decide +kernel
theorem dX12_wanted_1 : decode cX12_wanted 1 = .ok (.getfield 222, 3) := by decide +kernel
theorem dX12_wanted_4 : decode cX12_wanted 4 = .ok (.iconst 1, 1) := by decide +kernel
theorem dX12_wanted_5 : decode cX12_wanted 5 = .ok (.iaload, 1) := by decide +kernel
theorem dX12_wanted_6 : decode cX12_wanted 6 = .ok (.istore_n 3, 1) := by decide +kernel
theorem dX12_wanted_7 : decode cX12_wanted 7 = .ok (.aload_n 0, 1) := by decide +kernel
theorem dX12_wanted_8 : decode cX12_wanted 8 = .ok (.iload_n 1, 1) := by decide +kernel
theorem dX12_wanted_9 : decode cX12_wanted 9 = .ok (.iload_n 3, 1) := by decide +kernel
theorem dX12_wanted_10 : decode cX12_wanted 10 = .ok (.invokevirtual 629, 3) := by decide +kernel
theorem dX12_wanted_13 : decode cX12_wanted 13 = .ok (.ifCond .eq 52, 3) := by decide +kernel
theorem dX12_wanted_16 : decode cX12_wanted 16 = .ok (.aload_n 0, 1) := by decide +kernel
theorem dX12_wanted_17 : decode cX12_wanted 17 = .ok (.getfield 222, 3) := by decide +kernel
theorem dX12_wanted_20 : decode cX12_wanted 20 = .ok (.iconst 2, 1) := by decide +kernel
theorem dX12_wanted_21 : decode cX12_wanted 21 = .ok (.iaload, 1) := by decide +kernel
theorem dX12_wanted_22 : decode cX12_wanted 22 = .ok (.aload_n 0, 1) := by decide +kernel
theorem dX12_wanted_23 : decode cX12_wanted 23 = .ok (.getfield 125, 3) := by decide +kernel
theorem dX12_wanted_26 : decode cX12_wanted 26 = .ok (.aload_n 0, 1) := by decide +kernel
theorem dX12_wanted_27 : decode cX12_wanted 27 = .ok (.iload_n 1, 1) := by decide +kernel
theorem dX12_wanted_28 : decode cX12_wanted 28 = .ok (.iload_n 3, 1) := by decide +kernel
theorem dX12_wanted_29 : decode cX12_wanted 29 = .ok (.invokevirtual 364, 3) := by decide +kernel
theorem dX12_wanted_32 : decode cX12_wanted 32 = .ok (.iaload, 1) := by decide +kernel
theorem dX12_wanted_33 : decode cX12_wanted 33 = .ok (.if_icmp .ne 32, 3) := by decide +kernel
theorem dX12_wanted_36 : decode cX12_wanted 36 = .ok (.aload_n 0, 1) := by decide +kernel
theorem dX12_wanted_37 : decode cX12_wanted 37 = .ok (.getfield 158, 3) := by decide +kernel
theorem dX12_wanted_40 : decode cX12_wanted 40 = .ok (.iconst 5, 1) := by decide +kernel
theorem dX12_wanted_41 : decode cX12_wanted 41 = .ok (.aload_n 0, 1) := by decide +kernel
theorem dX12_wanted_42 : decode cX12_wanted 42 = .ok (.iload_n 1, 1) := by decide +kernel
theorem dX12_wanted_43 : decode cX12_wanted 43 = .ok (.iload_n 3, 1) := by decide +kernel
theorem dX12_wanted_44 : decode cX12_wanted 44 = .ok (.invokevirtual 364, 3) := by decide +kernel
theorem dX12_wanted_47 : decode cX12_wanted 47 = .ok (.imul, 1) := by decide +kernel
theorem dX12_wanted_48 : decode cX12_wanted 48 = .ok (.iload_n 2, 1) := by decide +kernel
theorem dX12_wanted_49 : decode cX12_wanted 49 = .ok (.iadd, 1) := by decide +kernel
theorem dX12_wanted_50 : decode cX12_wanted 50 = .ok (.iaload, 1) := by decide +kernel
theorem dX12_wanted_51 : decode cX12_wanted 51 = .ok (.ifCond .le 14, 3) := by decide +kernel
theorem dX12_wanted_54 : decode cX12_wanted 54 = .ok (.aload_n 0, 1) := by decide +kernel
theorem dX12_wanted_55 : decode cX12_wanted 55 = .ok (.aload_n 0, 1) := by decide +kernel
theorem dX12_wanted_56 : decode cX12_wanted 56 = .ok (.iload_n 1, 1) := by decide +kernel
theorem dX12_wanted_57 : decode cX12_wanted 57 = .ok (.iload_n 3, 1) := by decide +kernel
theorem dX12_wanted_58 : decode cX12_wanted 58 = .ok (.invokevirtual 364, 3) := by decide +kernel
theorem dX12_wanted_61 : decode cX12_wanted 61 = .ok (.iload_n 2, 1) := by decide +kernel
theorem dX12_wanted_62 : decode cX12_wanted 62 = .ok (.invokevirtual 453, 3) := by decide +kernel
theorem dX12_wanted_65 : decode cX12_wanted 65 = .ok (.return_, 1) := by decide +kernel
theorem dX12_deliverOne_0 : decode cX12_deliverOne 0 = .ok (.aload_n 0, 1) := by decide +kernel
theorem dX12_deliverOne_1 : decode cX12_deliverOne 1 = .ok (.iload_n 1, 1) := by decide +kernel
theorem dX12_deliverOne_2 : decode cX12_deliverOne 2 = .ok (.iload_n 2, 1) := by decide +kernel
theorem dX12_deliverOne_3 : decode cX12_deliverOne 3 = .ok (.invokevirtual 766, 3) := by decide +kernel
theorem dX12_deliverOne_6 : decode cX12_deliverOne 6 = .ok (.istore_n 3, 1) := by decide +kernel
theorem dX12_deliverOne_7 : decode cX12_deliverOne 7 = .ok (.aload_n 0, 1) := by decide +kernel
theorem dX12_deliverOne_8 : decode cX12_deliverOne 8 = .ok (.dup, 1) := by decide +kernel
theorem dX12_deliverOne_9 : decode cX12_deliverOne 9 = .ok (.getfield 342, 3) := by decide +kernel
theorem dX12_deliverOne_12 : decode cX12_deliverOne 12 = .ok (.iconst 1, 1) := by decide +kernel
theorem dX12_deliverOne_13 : decode cX12_deliverOne 13 = .ok (.iadd, 1) := by decide +kernel
theorem dX12_deliverOne_14 : decode cX12_deliverOne 14 = .ok (.putfield 342, 3) := by decide +kernel
theorem dX12_deliverOne_17 : decode cX12_deliverOne 17 = .ok (.aload_n 0, 1) := by decide +kernel
theorem dX12_deliverOne_18 : decode cX12_deliverOne 18 = .ok (.getfield 77, 3) := by decide +kernel
theorem dX12_deliverOne_21 : decode cX12_deliverOne 21 = .ok (.iload_n 2, 1) := by decide +kernel
theorem dX12_deliverOne_22 : decode cX12_deliverOne 22 = .ok (.baload, 1) := by decide +kernel
theorem dX12_deliverOne_23 : decode cX12_deliverOne 23 = .ok (.ifCond .eq 9, 3) := by decide +kernel
theorem dX12_deliverOne_26 : decode cX12_deliverOne 26 = .ok (.aload_n 0, 1) := by decide +kernel
theorem dX12_deliverOne_27 : decode cX12_deliverOne 27 = .ok (.iload_n 2, 1) := by decide +kernel
theorem dX12_deliverOne_28 : decode cX12_deliverOne 28 = .ok (.iload_n 1, 1) := by decide +kernel
theorem dX12_deliverOne_29 : decode cX12_deliverOne 29 = .ok (.invokevirtual 769, 3) := by decide +kernel
theorem dX12_deliverOne_32 : decode cX12_deliverOne 32 = .ok (.iload_n 3, 1) := by decide +kernel
theorem dX12_deliverOne_33 : decode cX12_deliverOne 33 = .ok (.ireturn, 1) := by decide +kernel
theorem dX12_isNode_0 : decode cX12_isNode 0 = .ok (.iload_n 1, 1) := by decide +kernel
theorem dX12_isNode_1 : decode cX12_isNode 1 = .ok (.ifCond .lt 15, 3) := by decide +kernel
theorem dX12_isNode_4 : decode cX12_isNode 4 = .ok (.iload_n 1, 1) := by decide +kernel
theorem dX12_isNode_5 : decode cX12_isNode 5 = .ok (.aload_n 0, 1) := by decide +kernel
theorem dX12_isNode_6 : decode cX12_isNode 6 = .ok (.getfield 321, 3) := by decide +kernel
theorem dX12_isNode_9 : decode cX12_isNode 9 = .ok (.if_icmp .ge 7, 3) := by decide +kernel
theorem dX12_isNode_12 : decode cX12_isNode 12 = .ok (.iconst 1, 1) := by decide +kernel
theorem dX12_isNode_13 : decode cX12_isNode 13 = .ok (.goto 4, 3) := by decide +kernel
theorem dX12_isNode_16 : decode cX12_isNode 16 = .ok (.iconst 0, 1) := by decide +kernel
theorem dX12_isNode_17 : decode cX12_isNode 17 = .ok (.ireturn, 1) := by decide +kernel
theorem dX12_isPlace_0 : decode cX12_isPlace 0 = .ok (.iload_n 1, 1) := by decide +kernel
theorem dX12_isPlace_1 : decode cX12_isPlace 1 = .ok (.ifCond .lt 15, 3) := by decide +kernel
theorem dX12_isPlace_4 : decode cX12_isPlace 4 = .ok (.iload_n 1, 1) := by decide +kernel
theorem dX12_isPlace_5 : decode cX12_isPlace 5 = .ok (.aload_n 0, 1) := by decide +kernel
theorem dX12_isPlace_6 : decode cX12_isPlace 6 = .ok (.getfield 321, 3) := by decide +kernel
theorem dX12_isPlace_9 : decode cX12_isPlace 9 = .ok (.if_icmp .gt 7, 3) := by decide +kernel
theorem dX12_isPlace_12 : decode cX12_isPlace 12 = .ok (.iconst 1, 1) := by decide +kernel
theorem dX12_isPlace_13 : decode cX12_isPlace 13 = .ok (.goto 4, 3) := by decide +kernel
theorem dX12_isPlace_16 : decode cX12_isPlace 16 = .ok (.iconst 0, 1) := by decide +kernel
theorem dX12_isPlace_17 : decode cX12_isPlace 17 = .ok (.ireturn, 1) := by decide +kernel
theorem dX12_make_0 : decode cX12_make 0 = .ok (.aload_n 0, 1) := by decide +kernel
theorem dX12_make_1 : decode cX12_make 1 = .ok (.iload_n 1, 1) := by decide +kernel
theorem dX12_make_2 : decode cX12_make 2 = .ok (.iconst 1, 1) := by decide +kernel
theorem dX12_make_3 : decode cX12_make 3 = .ok (.if_icmp .lt 33, 3) := by decide +kernel
theorem dX12_make_6 : decode cX12_make 6 = .ok (.iload_n 1, 1) := by decide +kernel
theorem dX12_make_7 : decode cX12_make 7 = .ok (.iconst 5, 1) := by decide +kernel
theorem dX12_make_8 : decode cX12_make 8 = .ok (.if_icmp .gt 28, 3) := by decide +kernel
theorem dX12_make_11 : decode cX12_make 11 = .ok (.iload_n 2, 1) := by decide +kernel
theorem dX12_make_12 : decode cX12_make 12 = .ok (.iconst 1, 1) := by decide +kernel
theorem dX12_make_13 : decode cX12_make 13 = .ok (.if_icmp .lt 23, 3) := by decide +kernel
theorem dX12_make_16 : decode cX12_make 16 = .ok (.iload_n 2, 1) := by decide +kernel
theorem dX12_make_17 : decode cX12_make 17 = .ok (.iconst 4, 1) := by decide +kernel
theorem dX12_make_18 : decode cX12_make 18 = .ok (.if_icmp .gt 18, 3) := by decide +kernel
theorem dX12_make_21 : decode cX12_make 21 = .ok (.iload_n 3, 1) := by decide +kernel
theorem dX12_make_22 : decode cX12_make 22 = .ok (.iconst 1, 1) := by decide +kernel
theorem dX12_make_23 : decode cX12_make 23 = .ok (.if_icmp .lt 13, 3) := by decide +kernel
theorem dX12_make_26 : decode cX12_make 26 = .ok (.iload_n 3, 1) := by decide +kernel
theorem dX12_make_27 : decode cX12_make 27 = .ok (.iconst 3, 1) := by decide +kernel
theorem dX12_make_28 : decode cX12_make 28 = .ok (.if_icmp .gt 8, 3) := by decide +kernel
theorem dX12_make_31 : decode cX12_make 31 = .ok (.iload_n 3, 1) := by decide +kernel
theorem dX12_make_32 : decode cX12_make 32 = .ok (.iload_n 1, 1) := by decide +kernel
theorem dX12_make_33 : decode cX12_make 33 = .ok (.if_icmp .le 7, 3) := by decide +kernel
theorem dX12_make_36 : decode cX12_make 36 = .ok (.iconst 1, 1) := by decide +kernel
theorem dX12_make_37 : decode cX12_make 37 = .ok (.goto 4, 3) := by decide +kernel
theorem dX12_make_40 : decode cX12_make 40 = .ok (.iconst 0, 1) := by decide +kernel
theorem dX12_make_41 : decode cX12_make 41 = .ok (.putfield 317, 3) := by decide +kernel
theorem dX12_make_44 : decode cX12_make 44 = .ok (.aload_n 0, 1) := by decide +kernel
theorem dX12_make_45 : decode cX12_make 45 = .ok (.getfield 317, 3) := by decide +kernel
theorem dX12_make_48 : decode cX12_make 48 = .ok (.ifCond .le 5, 3) := by decide +kernel
theorem dX12_make_51 : decode cX12_make 51 = .ok (.iconst 0, 1) := by decide +kernel
theorem dX12_make_52 : decode cX12_make 52 = .ok (.ireturn, 1) := by decide +kernel
theorem dX12_make_53 : decode cX12_make 53 = .ok (.aload_n 0, 1) := by decide +kernel
theorem dX12_make_54 : decode cX12_make 54 = .ok (.iload_n 1, 1) := by decide +kernel
theorem dX12_make_55 : decode cX12_make 55 = .ok (.iload_n 2, 1) := by decide +kernel
theorem dX12_make_56 : decode cX12_make 56 = .ok (.iload_n 3, 1) := by decide +kernel
theorem dX12_make_57 : decode cX12_make 57 = .ok (.invokevirtual 313, 3) := by decide +kernel
theorem dX12_make_60 : decode cX12_make 60 = .ok (.iload_n 2, 1) := by decide +kernel
theorem dX12_make_61 : decode cX12_make 61 = .ok (.iload_n 3, 1) := by decide +kernel
theorem dX12_make_62 : decode cX12_make 62 = .ok (.imul, 1) := by decide +kernel
theorem dX12_make_63 : decode cX12_make 63 = .ok (.ireturn, 1) := by decide +kernel
theorem dX12_draft_0 : decode cX12_draft 0 = .ok (.aload_n 0, 1) := by decide +kernel
theorem dX12_draft_1 : decode cX12_draft 1 = .ok (.iload_n 1, 1) := by decide +kernel
theorem dX12_draft_2 : decode cX12_draft 2 = .ok (.iconst 1, 1) := by decide +kernel
theorem dX12_draft_3 : decode cX12_draft 3 = .ok (.if_icmp .lt 20, 3) := by decide +kernel
theorem dX12_draft_6 : decode cX12_draft 6 = .ok (.iload_n 1, 1) := by decide +kernel
theorem dX12_draft_7 : decode cX12_draft 7 = .ok (.bipush 8, 2) := by decide +kernel
theorem dX12_draft_9 : decode cX12_draft 9 = .ok (.if_icmp .gt 14, 3) := by decide +kernel
theorem dX12_draft_12 : decode cX12_draft 12 = .ok (.aload_n 0, 1) := by decide +kernel
theorem dX12_draft_13 : decode cX12_draft 13 = .ok (.getfield 772, 3) := by decide +kernel
theorem dX12_draft_16 : decode cX12_draft 16 = .ok (.iload_n 1, 1) := by decide +kernel
theorem dX12_draft_17 : decode cX12_draft 17 = .ok (.iadd, 1) := by decide +kernel
theorem dX12_draft_18 : decode cX12_draft 18 = .ok (.bipush 60, 2) := by decide +kernel
theorem dX12_draft_20 : decode cX12_draft 20 = .ok (.if_icmp .le 7, 3) := by decide +kernel
theorem dX12_draft_23 : decode cX12_draft 23 = .ok (.iconst 1, 1) := by decide +kernel
theorem dX12_draft_24 : decode cX12_draft 24 = .ok (.goto 4, 3) := by decide +kernel
theorem dX12_draft_27 : decode cX12_draft 27 = .ok (.iconst 0, 1) := by decide +kernel
theorem dX12_draft_28 : decode cX12_draft 28 = .ok (.putfield 317, 3) := by decide +kernel
theorem dX12_draft_31 : decode cX12_draft 31 = .ok (.iconst 0, 1) := by decide +kernel
theorem dX12_draft_32 : decode cX12_draft 32 = .ok (.istore 4, 2) := by decide +kernel
theorem dX12_draft_34 : decode cX12_draft 34 = .ok (.iload 4, 2) := by decide +kernel
theorem dX12_draft_36 : decode cX12_draft 36 = .ok (.iload_n 1, 1) := by decide +kernel
theorem dX12_draft_37 : decode cX12_draft 37 = .ok (.if_icmp .ge 47, 3) := by decide +kernel
theorem dX12_draft_40 : decode cX12_draft 40 = .ok (.aload_n 0, 1) := by decide +kernel
theorem dX12_draft_41 : decode cX12_draft 41 = .ok (.getfield 317, 3) := by decide +kernel
theorem dX12_draft_44 : decode cX12_draft 44 = .ok (.ifCond .ne 40, 3) := by decide +kernel
theorem dX12_draft_47 : decode cX12_draft 47 = .ok (.aload_n 0, 1) := by decide +kernel
theorem dX12_draft_48 : decode cX12_draft 48 = .ok (.getfield 53, 3) := by decide +kernel
theorem dX12_draft_51 : decode cX12_draft 51 = .ok (.aload_n 0, 1) := by decide +kernel
theorem dX12_draft_52 : decode cX12_draft 52 = .ok (.getfield 772, 3) := by decide +kernel
theorem dX12_draft_55 : decode cX12_draft 55 = .ok (.lload_n 2, 1) := by decide +kernel
theorem dX12_draft_56 : decode cX12_draft 56 = .ok (.bipush 8, 2) := by decide +kernel
theorem dX12_draft_58 : decode cX12_draft 58 = .ok (.iload 4, 2) := by decide +kernel
theorem dX12_draft_60 : decode cX12_draft 60 = .ok (.imul, 1) := by decide +kernel
theorem dX12_draft_61 : decode cX12_draft 61 = .ok (.lshr, 1) := by decide +kernel
theorem dX12_draft_62 : decode cX12_draft 62 = .ok (.ldc2_w 775, 3) := by decide +kernel
theorem dX12_draft_65 : decode cX12_draft 65 = .ok (.land, 1) := by decide +kernel
theorem dX12_draft_66 : decode cX12_draft 66 = .ok (.l2i, 1) := by decide +kernel
theorem dX12_draft_67 : decode cX12_draft 67 = .ok (.iastore, 1) := by decide +kernel
theorem dX12_draft_68 : decode cX12_draft 68 = .ok (.aload_n 0, 1) := by decide +kernel
theorem dX12_draft_69 : decode cX12_draft 69 = .ok (.dup, 1) := by decide +kernel
theorem dX12_draft_70 : decode cX12_draft 70 = .ok (.getfield 772, 3) := by decide +kernel
theorem dX12_draft_73 : decode cX12_draft 73 = .ok (.iconst 1, 1) := by decide +kernel
theorem dX12_draft_74 : decode cX12_draft 74 = .ok (.iadd, 1) := by decide +kernel
theorem dX12_draft_75 : decode cX12_draft 75 = .ok (.putfield 772, 3) := by decide +kernel
theorem dX12_draft_78 : decode cX12_draft 78 = .ok (.iinc 4 1, 3) := by decide +kernel
theorem dX12_draft_81 : decode cX12_draft 81 = .ok (.goto (-47), 3) := by decide +kernel
theorem dX12_draft_84 : decode cX12_draft 84 = .ok (.aload_n 0, 1) := by decide +kernel
theorem dX12_draft_85 : decode cX12_draft 85 = .ok (.getfield 772, 3) := by decide +kernel
theorem dX12_draft_88 : decode cX12_draft 88 = .ok (.ireturn, 1) := by decide +kernel
theorem dX12_come_0 : decode cX12_come 0 = .ok (.aload_n 0, 1) := by decide +kernel
theorem dX12_come_1 : decode cX12_come 1 = .ok (.getfield 333, 3) := by decide +kernel
theorem dX12_come_4 : decode cX12_come 4 = .ok (.istore 4, 2) := by decide +kernel
theorem dX12_come_6 : decode cX12_come 6 = .ok (.aload_n 0, 1) := by decide +kernel
theorem dX12_come_7 : decode cX12_come 7 = .ok (.dup, 1) := by decide +kernel
theorem dX12_come_8 : decode cX12_come 8 = .ok (.getfield 333, 3) := by decide +kernel
theorem dX12_come_11 : decode cX12_come 11 = .ok (.iconst 1, 1) := by decide +kernel
theorem dX12_come_12 : decode cX12_come 12 = .ok (.iadd, 1) := by decide +kernel
theorem dX12_come_13 : decode cX12_come 13 = .ok (.putfield 333, 3) := by decide +kernel
theorem dX12_come_16 : decode cX12_come 16 = .ok (.aload_n 0, 1) := by decide +kernel
theorem dX12_come_17 : decode cX12_come 17 = .ok (.getfield 7, 3) := by decide +kernel
theorem dX12_come_20 : decode cX12_come 20 = .ok (.iload 4, 2) := by decide +kernel
theorem dX12_come_22 : decode cX12_come 22 = .ok (.iload_n 2, 1) := by decide +kernel
theorem dX12_come_23 : decode cX12_come 23 = .ok (.iastore, 1) := by decide +kernel
theorem dX12_come_24 : decode cX12_come 24 = .ok (.aload_n 0, 1) := by decide +kernel
theorem dX12_come_25 : decode cX12_come 25 = .ok (.getfield 13, 3) := by decide +kernel
theorem dX12_come_28 : decode cX12_come 28 = .ok (.iload 4, 2) := by decide +kernel
theorem dX12_come_30 : decode cX12_come 30 = .ok (.iload_n 3, 1) := by decide +kernel
theorem dX12_come_31 : decode cX12_come 31 = .ok (.iastore, 1) := by decide +kernel
theorem dX12_come_32 : decode cX12_come 32 = .ok (.aload_n 0, 1) := by decide +kernel
theorem dX12_come_33 : decode cX12_come 33 = .ok (.getfield 19, 3) := by decide +kernel
theorem dX12_come_36 : decode cX12_come 36 = .ok (.iload 4, 2) := by decide +kernel
theorem dX12_come_38 : decode cX12_come 38 = .ok (.iload_n 1, 1) := by decide +kernel
theorem dX12_come_39 : decode cX12_come 39 = .ok (.iastore, 1) := by decide +kernel
theorem dX12_come_40 : decode cX12_come 40 = .ok (.aload_n 0, 1) := by decide +kernel
theorem dX12_come_41 : decode cX12_come 41 = .ok (.getfield 22, 3) := by decide +kernel
theorem dX12_come_44 : decode cX12_come 44 = .ok (.iload 4, 2) := by decide +kernel
theorem dX12_come_46 : decode cX12_come 46 = .ok (.iconst 0, 1) := by decide +kernel
theorem dX12_come_47 : decode cX12_come 47 = .ok (.iastore, 1) := by decide +kernel
theorem dX12_come_48 : decode cX12_come 48 = .ok (.aload_n 0, 1) := by decide +kernel
theorem dX12_come_49 : decode cX12_come 49 = .ok (.getfield 25, 3) := by decide +kernel
theorem dX12_come_52 : decode cX12_come 52 = .ok (.iload 4, 2) := by decide +kernel
theorem dX12_come_54 : decode cX12_come 54 = .ok (.aload_n 0, 1) := by decide +kernel
theorem dX12_come_55 : decode cX12_come 55 = .ok (.getfield 330, 3) := by decide +kernel
theorem dX12_come_58 : decode cX12_come 58 = .ok (.iastore, 1) := by decide +kernel
theorem dX12_come_59 : decode cX12_come 59 = .ok (.aload_n 0, 1) := by decide +kernel
theorem dX12_come_60 : decode cX12_come 60 = .ok (.getfield 28, 3) := by decide +kernel
theorem dX12_come_63 : decode cX12_come 63 = .ok (.iload 4, 2) := by decide +kernel
theorem dX12_come_65 : decode cX12_come 65 = .ok (.aload_n 0, 1) := by decide +kernel
theorem dX12_come_66 : decode cX12_come 66 = .ok (.getfield 330, 3) := by decide +kernel
theorem dX12_come_69 : decode cX12_come 69 = .ok (.iastore, 1) := by decide +kernel
theorem dX12_come_70 : decode cX12_come 70 = .ok (.aload_n 0, 1) := by decide +kernel
theorem dX12_come_71 : decode cX12_come 71 = .ok (.getfield 31, 3) := by decide +kernel
theorem dX12_come_74 : decode cX12_come 74 = .ok (.iload 4, 2) := by decide +kernel
theorem dX12_come_76 : decode cX12_come 76 = .ok (.iconst 0, 1) := by decide +kernel
theorem dX12_come_77 : decode cX12_come 77 = .ok (.iastore, 1) := by decide +kernel
theorem dX12_come_78 : decode cX12_come 78 = .ok (.aload_n 0, 1) := by decide +kernel
theorem dX12_come_79 : decode cX12_come 79 = .ok (.getfield 34, 3) := by decide +kernel
theorem dX12_come_82 : decode cX12_come 82 = .ok (.iload 4, 2) := by decide +kernel
theorem dX12_come_84 : decode cX12_come 84 = .ok (.iconst 0, 1) := by decide +kernel
theorem dX12_come_85 : decode cX12_come 85 = .ok (.bastore, 1) := by decide +kernel
theorem dX12_come_86 : decode cX12_come 86 = .ok (.aload_n 0, 1) := by decide +kernel
theorem dX12_come_87 : decode cX12_come 87 = .ok (.getfield 38, 3) := by decide +kernel
theorem dX12_come_90 : decode cX12_come 90 = .ok (.iload 4, 2) := by decide +kernel
theorem dX12_come_92 : decode cX12_come 92 = .ok (.iconst 0, 1) := by decide +kernel
theorem dX12_come_93 : decode cX12_come 93 = .ok (.iastore, 1) := by decide +kernel
theorem dX12_come_94 : decode cX12_come 94 = .ok (.aload_n 0, 1) := by decide +kernel
theorem dX12_come_95 : decode cX12_come 95 = .ok (.getfield 50, 3) := by decide +kernel
theorem dX12_come_98 : decode cX12_come 98 = .ok (.iload 4, 2) := by decide +kernel
theorem dX12_come_100 : decode cX12_come 100 = .ok (.iconst 0, 1) := by decide +kernel
theorem dX12_come_101 : decode cX12_come 101 = .ok (.iastore, 1) := by decide +kernel
theorem dX12_come_102 : decode cX12_come 102 = .ok (.aload_n 0, 1) := by decide +kernel
theorem dX12_come_103 : decode cX12_come 103 = .ok (.iload_n 1, 1) := by decide +kernel
theorem dX12_come_104 : decode cX12_come 104 = .ok (.aload_n 0, 1) := by decide +kernel
theorem dX12_come_105 : decode cX12_come 105 = .ok (.getfield 321, 3) := by decide +kernel
theorem dX12_come_108 : decode cX12_come 108 = .ok (.iconst 1, 1) := by decide +kernel
theorem dX12_come_109 : decode cX12_come 109 = .ok (.iload 4, 2) := by decide +kernel
theorem dX12_come_111 : decode cX12_come 111 = .ok (.iconst 0, 1) := by decide +kernel
theorem dX12_come_112 : decode cX12_come 112 = .ok (.invokevirtual 589, 3) := by decide +kernel
theorem dX12_come_115 : decode cX12_come 115 = .ok (.iload 4, 2) := by decide +kernel
theorem dX12_come_117 : decode cX12_come 117 = .ok (.ireturn, 1) := by decide +kernel
theorem dX12_takeDraft_0 : decode cX12_takeDraft 0 = .ok (.iconst 0, 1) := by decide +kernel
theorem dX12_takeDraft_1 : decode cX12_takeDraft 1 = .ok (.istore_n 2, 1) := by decide +kernel
theorem dX12_takeDraft_2 : decode cX12_takeDraft 2 = .ok (.iload_n 2, 1) := by decide +kernel
theorem dX12_takeDraft_3 : decode cX12_takeDraft 3 = .ok (.aload_n 0, 1) := by decide +kernel
theorem dX12_takeDraft_4 : decode cX12_takeDraft 4 = .ok (.getfield 772, 3) := by decide +kernel
theorem dX12_takeDraft_7 : decode cX12_takeDraft 7 = .ok (.if_icmp .ge 26, 3) := by decide +kernel
theorem dX12_takeDraft_10 : decode cX12_takeDraft 10 = .ok (.aload_n 0, 1) := by decide +kernel
theorem dX12_takeDraft_11 : decode cX12_takeDraft 11 = .ok (.getfield 47, 3) := by decide +kernel
theorem dX12_takeDraft_14 : decode cX12_takeDraft 14 = .ok (.bipush 60, 2) := by decide +kernel
theorem dX12_takeDraft_16 : decode cX12_takeDraft 16 = .ok (.iload_n 1, 1) := by decide +kernel
theorem dX12_takeDraft_17 : decode cX12_takeDraft 17 = .ok (.imul, 1) := by decide +kernel
theorem dX12_takeDraft_18 : decode cX12_takeDraft 18 = .ok (.iload_n 2, 1) := by decide +kernel
theorem dX12_takeDraft_19 : decode cX12_takeDraft 19 = .ok (.iadd, 1) := by decide +kernel
theorem dX12_takeDraft_20 : decode cX12_takeDraft 20 = .ok (.aload_n 0, 1) := by decide +kernel
theorem dX12_takeDraft_21 : decode cX12_takeDraft 21 = .ok (.getfield 53, 3) := by decide +kernel
theorem dX12_takeDraft_24 : decode cX12_takeDraft 24 = .ok (.iload_n 2, 1) := by decide +kernel
theorem dX12_takeDraft_25 : decode cX12_takeDraft 25 = .ok (.iaload, 1) := by decide +kernel
theorem dX12_takeDraft_26 : decode cX12_takeDraft 26 = .ok (.iastore, 1) := by decide +kernel
theorem dX12_takeDraft_27 : decode cX12_takeDraft 27 = .ok (.iinc 2 1, 3) := by decide +kernel
theorem dX12_takeDraft_30 : decode cX12_takeDraft 30 = .ok (.goto (-28), 3) := by decide +kernel
theorem dX12_takeDraft_33 : decode cX12_takeDraft 33 = .ok (.aload_n 0, 1) := by decide +kernel
theorem dX12_takeDraft_34 : decode cX12_takeDraft 34 = .ok (.getfield 50, 3) := by decide +kernel
theorem dX12_takeDraft_37 : decode cX12_takeDraft 37 = .ok (.iload_n 1, 1) := by decide +kernel
theorem dX12_takeDraft_38 : decode cX12_takeDraft 38 = .ok (.aload_n 0, 1) := by decide +kernel
theorem dX12_takeDraft_39 : decode cX12_takeDraft 39 = .ok (.getfield 772, 3) := by decide +kernel
theorem dX12_takeDraft_42 : decode cX12_takeDraft 42 = .ok (.iastore, 1) := by decide +kernel
theorem dX12_takeDraft_43 : decode cX12_takeDraft 43 = .ok (.aload_n 0, 1) := by decide +kernel
theorem dX12_takeDraft_44 : decode cX12_takeDraft 44 = .ok (.iconst 0, 1) := by decide +kernel
theorem dX12_takeDraft_45 : decode cX12_takeDraft 45 = .ok (.putfield 772, 3) := by decide +kernel
theorem dX12_takeDraft_48 : decode cX12_takeDraft 48 = .ok (.return_, 1) := by decide +kernel
theorem dX12_isText_0 : decode cX12_isText 0 = .ok (.aload_n 0, 1) := by decide +kernel
theorem dX12_isText_1 : decode cX12_isText 1 = .ok (.getfield 772, 3) := by decide +kernel
theorem dX12_isText_4 : decode cX12_isText 4 = .ok (.iload_n 1, 1) := by decide +kernel
theorem dX12_isText_5 : decode cX12_isText 5 = .ok (.if_icmp .gt 7, 3) := by decide +kernel
theorem dX12_isText_8 : decode cX12_isText 8 = .ok (.iconst 1, 1) := by decide +kernel
theorem dX12_isText_9 : decode cX12_isText 9 = .ok (.goto 4, 3) := by decide +kernel
theorem dX12_isText_12 : decode cX12_isText 12 = .ok (.iconst 0, 1) := by decide +kernel
theorem dX12_isText_13 : decode cX12_isText 13 = .ok (.istore_n 2, 1) := by decide +kernel
theorem dX12_isText_14 : decode cX12_isText 14 = .ok (.iconst 0, 1) := by decide +kernel
theorem dX12_isText_15 : decode cX12_isText 15 = .ok (.istore_n 3, 1) := by decide +kernel
theorem dX12_isText_16 : decode cX12_isText 16 = .ok (.iload_n 3, 1) := by decide +kernel
theorem dX12_isText_17 : decode cX12_isText 17 = .ok (.aload_n 0, 1) := by decide +kernel
theorem dX12_isText_18 : decode cX12_isText 18 = .ok (.getfield 772, 3) := by decide +kernel
theorem dX12_isText_21 : decode cX12_isText 21 = .ok (.if_icmp .ge 41, 3) := by decide +kernel
theorem dX12_isText_24 : decode cX12_isText 24 = .ok (.iload_n 2, 1) := by decide +kernel
theorem dX12_isText_25 : decode cX12_isText 25 = .ok (.ifCond .eq 29, 3) := by decide +kernel
theorem dX12_isText_28 : decode cX12_isText 28 = .ok (.aload_n 0, 1) := by decide +kernel
theorem dX12_isText_29 : decode cX12_isText 29 = .ok (.getfield 53, 3) := by decide +kernel
theorem dX12_isText_32 : decode cX12_isText 32 = .ok (.iload_n 3, 1) := by decide +kernel
theorem dX12_isText_33 : decode cX12_isText 33 = .ok (.iaload, 1) := by decide +kernel
theorem dX12_isText_34 : decode cX12_isText 34 = .ok (.bipush 32, 2) := by decide +kernel
theorem dX12_isText_36 : decode cX12_isText 36 = .ok (.if_icmp .lt 18, 3) := by decide +kernel
theorem dX12_isText_39 : decode cX12_isText 39 = .ok (.aload_n 0, 1) := by decide +kernel
theorem dX12_isText_40 : decode cX12_isText 40 = .ok (.getfield 53, 3) := by decide +kernel
theorem dX12_isText_43 : decode cX12_isText 43 = .ok (.iload_n 3, 1) := by decide +kernel
theorem dX12_isText_44 : decode cX12_isText 44 = .ok (.iaload, 1) := by decide +kernel
theorem dX12_isText_45 : decode cX12_isText 45 = .ok (.bipush 126, 2) := by decide +kernel
theorem dX12_isText_47 : decode cX12_isText 47 = .ok (.if_icmp .gt 7, 3) := by decide +kernel
theorem dX12_isText_50 : decode cX12_isText 50 = .ok (.iconst 1, 1) := by decide +kernel
theorem dX12_isText_51 : decode cX12_isText 51 = .ok (.goto 4, 3) := by decide +kernel
theorem dX12_isText_54 : decode cX12_isText 54 = .ok (.iconst 0, 1) := by decide +kernel
theorem dX12_isText_55 : decode cX12_isText 55 = .ok (.istore_n 2, 1) := by decide +kernel
theorem dX12_isText_56 : decode cX12_isText 56 = .ok (.iinc 3 1, 3) := by decide +kernel
theorem dX12_isText_59 : decode cX12_isText 59 = .ok (.goto (-43), 3) := by decide +kernel
theorem dX12_isText_62 : decode cX12_isText 62 = .ok (.iload_n 2, 1) := by decide +kernel
theorem dX12_isText_63 : decode cX12_isText 63 = .ok (.ireturn, 1) := by decide +kernel
theorem dX12_put_0 : decode cX12_put 0 = .ok (.aload_n 0, 1) := by decide +kernel
theorem dX12_put_1 : decode cX12_put 1 = .ok (.aload_n 0, 1) := by decide +kernel
theorem dX12_put_2 : decode cX12_put 2 = .ok (.iload_n 1, 1) := by decide +kernel
theorem dX12_put_3 : decode cX12_put 3 = .ok (.invokevirtual 777, 3) := by decide +kernel
theorem dX12_put_6 : decode cX12_put 6 = .ok (.ifCond .eq 13, 3) := by decide +kernel
theorem dX12_put_9 : decode cX12_put 9 = .ok (.iload_n 2, 1) := by decide +kernel
theorem dX12_put_10 : decode cX12_put 10 = .ok (.ifCond .lt 9, 3) := by decide +kernel
theorem dX12_put_13 : decode cX12_put 13 = .ok (.iload_n 2, 1) := by decide +kernel
theorem dX12_put_14 : decode cX12_put 14 = .ok (.bipush 99, 2) := by decide +kernel
theorem dX12_put_16 : decode cX12_put 16 = .ok (.if_icmp .le 7, 3) := by decide +kernel
theorem dX12_put_19 : decode cX12_put 19 = .ok (.iconst 1, 1) := by decide +kernel
theorem dX12_put_20 : decode cX12_put 20 = .ok (.goto 40, 3) := by decide +kernel
theorem dX12_put_23 : decode cX12_put 23 = .ok (.aload_n 0, 1) := by decide +kernel
theorem dX12_put_24 : decode cX12_put 24 = .ok (.bipush 40, 2) := by decide +kernel
theorem dX12_put_26 : decode cX12_put 26 = .ok (.invokevirtual 780, 3) := by decide +kernel
theorem dX12_put_29 : decode cX12_put 29 = .ok (.ifCond .ne 7, 3) := by decide +kernel
theorem dX12_put_32 : decode cX12_put 32 = .ok (.iconst 2, 1) := by decide +kernel
theorem dX12_put_33 : decode cX12_put 33 = .ok (.goto 27, 3) := by decide +kernel
theorem dX12_put_36 : decode cX12_put 36 = .ok (.aload_n 0, 1) := by decide +kernel
theorem dX12_put_37 : decode cX12_put 37 = .ok (.getfield 77, 3) := by decide +kernel
theorem dX12_put_40 : decode cX12_put 40 = .ok (.iload_n 1, 1) := by decide +kernel
theorem dX12_put_41 : decode cX12_put 41 = .ok (.baload, 1) := by decide +kernel
theorem dX12_put_42 : decode cX12_put 42 = .ok (.ifCond .eq 13, 3) := by decide +kernel
theorem dX12_put_45 : decode cX12_put 45 = .ok (.aload_n 0, 1) := by decide +kernel
theorem dX12_put_46 : decode cX12_put 46 = .ok (.getfield 333, 3) := by decide +kernel
theorem dX12_put_49 : decode cX12_put 49 = .ok (.sipush 500, 3) := by decide +kernel
theorem dX12_put_52 : decode cX12_put 52 = .ok (.if_icmp .ne 7, 3) := by decide +kernel
theorem dX12_put_55 : decode cX12_put 55 = .ok (.iconst 3, 1) := by decide +kernel
theorem dX12_put_56 : decode cX12_put 56 = .ok (.goto 4, 3) := by decide +kernel
theorem dX12_put_59 : decode cX12_put 59 = .ok (.iconst 0, 1) := by decide +kernel
theorem dX12_put_60 : decode cX12_put 60 = .ok (.putfield 317, 3) := by decide +kernel
theorem dX12_put_63 : decode cX12_put 63 = .ok (.aload_n 0, 1) := by decide +kernel
theorem dX12_put_64 : decode cX12_put 64 = .ok (.getfield 317, 3) := by decide +kernel
theorem dX12_put_67 : decode cX12_put 67 = .ok (.ifCond .le 5, 3) := by decide +kernel
theorem dX12_put_70 : decode cX12_put 70 = .ok (.iconst 0, 1) := by decide +kernel
theorem dX12_put_71 : decode cX12_put 71 = .ok (.ireturn, 1) := by decide +kernel
theorem dX12_put_72 : decode cX12_put 72 = .ok (.aload_n 0, 1) := by decide +kernel
theorem dX12_put_73 : decode cX12_put 73 = .ok (.iload_n 1, 1) := by decide +kernel
theorem dX12_put_74 : decode cX12_put 74 = .ok (.iconst 0, 1) := by decide +kernel
theorem dX12_put_75 : decode cX12_put 75 = .ok (.iload_n 2, 1) := by decide +kernel
theorem dX12_put_76 : decode cX12_put 76 = .ok (.invokevirtual 783, 3) := by decide +kernel
theorem dX12_put_79 : decode cX12_put 79 = .ok (.istore_n 3, 1) := by decide +kernel
theorem dX12_put_80 : decode cX12_put 80 = .ok (.aload_n 0, 1) := by decide +kernel
theorem dX12_put_81 : decode cX12_put 81 = .ok (.iload_n 3, 1) := by decide +kernel
theorem dX12_put_82 : decode cX12_put 82 = .ok (.invokevirtual 786, 3) := by decide +kernel
theorem dX12_put_85 : decode cX12_put 85 = .ok (.iload_n 3, 1) := by decide +kernel
theorem dX12_put_86 : decode cX12_put 86 = .ok (.ireturn, 1) := by decide +kernel
theorem dX12_drop_0 : decode cX12_drop 0 = .ok (.aload_n 0, 1) := by decide +kernel
theorem dX12_drop_1 : decode cX12_drop 1 = .ok (.aload_n 0, 1) := by decide +kernel
theorem dX12_drop_2 : decode cX12_drop 2 = .ok (.iload_n 1, 1) := by decide +kernel
theorem dX12_drop_3 : decode cX12_drop 3 = .ok (.invokevirtual 777, 3) := by decide +kernel
theorem dX12_drop_6 : decode cX12_drop 6 = .ok (.ifCond .eq 13, 3) := by decide +kernel
theorem dX12_drop_9 : decode cX12_drop 9 = .ok (.iload_n 2, 1) := by decide +kernel
theorem dX12_drop_10 : decode cX12_drop 10 = .ok (.ifCond .lt 9, 3) := by decide +kernel
theorem dX12_drop_13 : decode cX12_drop 13 = .ok (.iload_n 2, 1) := by decide +kernel
theorem dX12_drop_14 : decode cX12_drop 14 = .ok (.bipush 99, 2) := by decide +kernel
theorem dX12_drop_16 : decode cX12_drop 16 = .ok (.if_icmp .le 7, 3) := by decide +kernel
theorem dX12_drop_19 : decode cX12_drop 19 = .ok (.iconst 1, 1) := by decide +kernel
theorem dX12_drop_20 : decode cX12_drop 20 = .ok (.goto 27, 3) := by decide +kernel
theorem dX12_drop_23 : decode cX12_drop 23 = .ok (.aload_n 0, 1) := by decide +kernel
theorem dX12_drop_24 : decode cX12_drop 24 = .ok (.getfield 77, 3) := by decide +kernel
theorem dX12_drop_27 : decode cX12_drop 27 = .ok (.iload_n 1, 1) := by decide +kernel
theorem dX12_drop_28 : decode cX12_drop 28 = .ok (.baload, 1) := by decide +kernel
theorem dX12_drop_29 : decode cX12_drop 29 = .ok (.ifCond .eq 13, 3) := by decide +kernel
theorem dX12_drop_32 : decode cX12_drop 32 = .ok (.aload_n 0, 1) := by decide +kernel
theorem dX12_drop_33 : decode cX12_drop 33 = .ok (.getfield 333, 3) := by decide +kernel
theorem dX12_drop_36 : decode cX12_drop 36 = .ok (.sipush 500, 3) := by decide +kernel
theorem dX12_drop_39 : decode cX12_drop 39 = .ok (.if_icmp .ne 7, 3) := by decide +kernel
theorem dX12_drop_42 : decode cX12_drop 42 = .ok (.iconst 2, 1) := by decide +kernel
theorem dX12_drop_43 : decode cX12_drop 43 = .ok (.goto 4, 3) := by decide +kernel
theorem dX12_drop_46 : decode cX12_drop 46 = .ok (.iconst 0, 1) := by decide +kernel
theorem dX12_drop_47 : decode cX12_drop 47 = .ok (.putfield 317, 3) := by decide +kernel
theorem dX12_drop_50 : decode cX12_drop 50 = .ok (.aload_n 0, 1) := by decide +kernel
theorem dX12_drop_51 : decode cX12_drop 51 = .ok (.getfield 317, 3) := by decide +kernel
theorem dX12_drop_54 : decode cX12_drop 54 = .ok (.ifCond .le 7, 3) := by decide +kernel
theorem dX12_drop_57 : decode cX12_drop 57 = .ok (.iconst 0, 1) := by decide +kernel
theorem dX12_drop_58 : decode cX12_drop 58 = .ok (.goto 10, 3) := by decide +kernel
theorem dX12_drop_61 : decode cX12_drop 61 = .ok (.aload_n 0, 1) := by decide +kernel
theorem dX12_drop_62 : decode cX12_drop 62 = .ok (.iload_n 1, 1) := by decide +kernel
theorem dX12_drop_63 : decode cX12_drop 63 = .ok (.iconst 1, 1) := by decide +kernel
theorem dX12_drop_64 : decode cX12_drop 64 = .ok (.iload_n 2, 1) := by decide +kernel
theorem dX12_drop_65 : decode cX12_drop 65 = .ok (.invokevirtual 783, 3) := by decide +kernel
theorem dX12_drop_68 : decode cX12_drop 68 = .ok (.ireturn, 1) := by decide +kernel
theorem dX12_refresh_0 : decode cX12_refresh 0 = .ok (.aload_n 0, 1) := by decide +kernel
theorem dX12_refresh_1 : decode cX12_refresh 1 = .ok (.aload_n 0, 1) := by decide +kernel
theorem dX12_refresh_2 : decode cX12_refresh 2 = .ok (.iload_n 1, 1) := by decide +kernel
theorem dX12_refresh_3 : decode cX12_refresh 3 = .ok (.invokevirtual 777, 3) := by decide +kernel
theorem dX12_refresh_6 : decode cX12_refresh 6 = .ok (.ifCond .eq 15, 3) := by decide +kernel
theorem dX12_refresh_9 : decode cX12_refresh 9 = .ok (.iload_n 2, 1) := by decide +kernel
theorem dX12_refresh_10 : decode cX12_refresh 10 = .ok (.ifCond .lt 11, 3) := by decide +kernel
theorem dX12_refresh_13 : decode cX12_refresh 13 = .ok (.iload_n 2, 1) := by decide +kernel
theorem dX12_refresh_14 : decode cX12_refresh 14 = .ok (.aload_n 0, 1) := by decide +kernel
theorem dX12_refresh_15 : decode cX12_refresh 15 = .ok (.getfield 327, 3) := by decide +kernel
theorem dX12_refresh_18 : decode cX12_refresh 18 = .ok (.if_icmp .lt 7, 3) := by decide +kernel
theorem dX12_refresh_21 : decode cX12_refresh 21 = .ok (.iconst 1, 1) := by decide +kernel
theorem dX12_refresh_22 : decode cX12_refresh 22 = .ok (.goto 27, 3) := by decide +kernel
theorem dX12_refresh_25 : decode cX12_refresh 25 = .ok (.aload_n 0, 1) := by decide +kernel
theorem dX12_refresh_26 : decode cX12_refresh 26 = .ok (.getfield 77, 3) := by decide +kernel
theorem dX12_refresh_29 : decode cX12_refresh 29 = .ok (.iload_n 1, 1) := by decide +kernel
theorem dX12_refresh_30 : decode cX12_refresh 30 = .ok (.baload, 1) := by decide +kernel
theorem dX12_refresh_31 : decode cX12_refresh 31 = .ok (.ifCond .eq 13, 3) := by decide +kernel
theorem dX12_refresh_34 : decode cX12_refresh 34 = .ok (.aload_n 0, 1) := by decide +kernel
theorem dX12_refresh_35 : decode cX12_refresh 35 = .ok (.getfield 333, 3) := by decide +kernel
theorem dX12_refresh_38 : decode cX12_refresh 38 = .ok (.sipush 500, 3) := by decide +kernel
theorem dX12_refresh_41 : decode cX12_refresh 41 = .ok (.if_icmp .ne 7, 3) := by decide +kernel
theorem dX12_refresh_44 : decode cX12_refresh 44 = .ok (.iconst 2, 1) := by decide +kernel
theorem dX12_refresh_45 : decode cX12_refresh 45 = .ok (.goto 4, 3) := by decide +kernel
theorem dX12_refresh_48 : decode cX12_refresh 48 = .ok (.iconst 0, 1) := by decide +kernel
theorem dX12_refresh_49 : decode cX12_refresh 49 = .ok (.putfield 317, 3) := by decide +kernel
theorem dX12_refresh_52 : decode cX12_refresh 52 = .ok (.aload_n 0, 1) := by decide +kernel
theorem dX12_refresh_53 : decode cX12_refresh 53 = .ok (.getfield 317, 3) := by decide +kernel
theorem dX12_refresh_56 : decode cX12_refresh 56 = .ok (.ifCond .le 7, 3) := by decide +kernel
theorem dX12_refresh_59 : decode cX12_refresh 59 = .ok (.iconst 0, 1) := by decide +kernel
theorem dX12_refresh_60 : decode cX12_refresh 60 = .ok (.goto 10, 3) := by decide +kernel
theorem dX12_refresh_63 : decode cX12_refresh 63 = .ok (.aload_n 0, 1) := by decide +kernel
theorem dX12_refresh_64 : decode cX12_refresh 64 = .ok (.iload_n 1, 1) := by decide +kernel
theorem dX12_refresh_65 : decode cX12_refresh 65 = .ok (.iconst 2, 1) := by decide +kernel
theorem dX12_refresh_66 : decode cX12_refresh 66 = .ok (.iload_n 2, 1) := by decide +kernel
theorem dX12_refresh_67 : decode cX12_refresh 67 = .ok (.invokevirtual 783, 3) := by decide +kernel
theorem dX12_refresh_70 : decode cX12_refresh 70 = .ok (.ireturn, 1) := by decide +kernel
theorem dX12_find_0 : decode cX12_find 0 = .ok (.aload_n 0, 1) := by decide +kernel
theorem dX12_find_1 : decode cX12_find 1 = .ok (.aload_n 0, 1) := by decide +kernel
theorem dX12_find_2 : decode cX12_find 2 = .ok (.iload_n 1, 1) := by decide +kernel
theorem dX12_find_3 : decode cX12_find 3 = .ok (.invokevirtual 777, 3) := by decide +kernel
theorem dX12_find_6 : decode cX12_find 6 = .ok (.ifCond .ne 7, 3) := by decide +kernel
theorem dX12_find_9 : decode cX12_find 9 = .ok (.iconst 1, 1) := by decide +kernel
theorem dX12_find_10 : decode cX12_find 10 = .ok (.goto 42, 3) := by decide +kernel
theorem dX12_find_13 : decode cX12_find 13 = .ok (.iload_n 2, 1) := by decide +kernel
theorem dX12_find_14 : decode cX12_find 14 = .ok (.iconst 1, 1) := by decide +kernel
theorem dX12_find_15 : decode cX12_find 15 = .ok (.if_icmp .lt 9, 3) := by decide +kernel
theorem dX12_find_18 : decode cX12_find 18 = .ok (.iload_n 2, 1) := by decide +kernel
theorem dX12_find_19 : decode cX12_find 19 = .ok (.bipush 10, 2) := by decide +kernel
theorem dX12_find_21 : decode cX12_find 21 = .ok (.if_icmp .le 7, 3) := by decide +kernel
theorem dX12_find_24 : decode cX12_find 24 = .ok (.iconst 2, 1) := by decide +kernel
theorem dX12_find_25 : decode cX12_find 25 = .ok (.goto 27, 3) := by decide +kernel
theorem dX12_find_28 : decode cX12_find 28 = .ok (.aload_n 0, 1) := by decide +kernel
theorem dX12_find_29 : decode cX12_find 29 = .ok (.getfield 77, 3) := by decide +kernel
theorem dX12_find_32 : decode cX12_find 32 = .ok (.iload_n 1, 1) := by decide +kernel
theorem dX12_find_33 : decode cX12_find 33 = .ok (.baload, 1) := by decide +kernel
theorem dX12_find_34 : decode cX12_find 34 = .ok (.ifCond .eq 13, 3) := by decide +kernel
theorem dX12_find_37 : decode cX12_find 37 = .ok (.aload_n 0, 1) := by decide +kernel
theorem dX12_find_38 : decode cX12_find 38 = .ok (.getfield 333, 3) := by decide +kernel
theorem dX12_find_41 : decode cX12_find 41 = .ok (.sipush 500, 3) := by decide +kernel
theorem dX12_find_44 : decode cX12_find 44 = .ok (.if_icmp .ne 7, 3) := by decide +kernel
theorem dX12_find_47 : decode cX12_find 47 = .ok (.iconst 3, 1) := by decide +kernel
theorem dX12_find_48 : decode cX12_find 48 = .ok (.goto 4, 3) := by decide +kernel
theorem dX12_find_51 : decode cX12_find 51 = .ok (.iconst 0, 1) := by decide +kernel
theorem dX12_find_52 : decode cX12_find 52 = .ok (.putfield 317, 3) := by decide +kernel
theorem dX12_find_55 : decode cX12_find 55 = .ok (.aload_n 0, 1) := by decide +kernel
theorem dX12_find_56 : decode cX12_find 56 = .ok (.getfield 317, 3) := by decide +kernel
theorem dX12_find_59 : decode cX12_find 59 = .ok (.ifCond .le 5, 3) := by decide +kernel
theorem dX12_find_62 : decode cX12_find 62 = .ok (.iconst 0, 1) := by decide +kernel
theorem dX12_find_63 : decode cX12_find 63 = .ok (.ireturn, 1) := by decide +kernel
theorem dX12_find_64 : decode cX12_find 64 = .ok (.aload_n 0, 1) := by decide +kernel
theorem dX12_find_65 : decode cX12_find 65 = .ok (.getfield 333, 3) := by decide +kernel
theorem dX12_find_68 : decode cX12_find 68 = .ok (.istore_n 3, 1) := by decide +kernel
theorem dX12_find_69 : decode cX12_find 69 = .ok (.aload_n 0, 1) := by decide +kernel
theorem dX12_find_70 : decode cX12_find 70 = .ok (.getfield 772, 3) := by decide +kernel
theorem dX12_find_73 : decode cX12_find 73 = .ok (.istore 4, 2) := by decide +kernel
theorem dX12_find_75 : decode cX12_find 75 = .ok (.iconst 0, 1) := by decide +kernel
theorem dX12_find_76 : decode cX12_find 76 = .ok (.istore 5, 2) := by decide +kernel
theorem dX12_find_78 : decode cX12_find 78 = .ok (.iload 5, 2) := by decide +kernel
theorem dX12_find_80 : decode cX12_find 80 = .ok (.iload 4, 2) := by decide +kernel
theorem dX12_find_82 : decode cX12_find 82 = .ok (.if_icmp .ge 28, 3) := by decide +kernel
theorem dX12_find_85 : decode cX12_find 85 = .ok (.aload_n 0, 1) := by decide +kernel
theorem dX12_find_86 : decode cX12_find 86 = .ok (.getfield 47, 3) := by decide +kernel
theorem dX12_find_89 : decode cX12_find 89 = .ok (.bipush 60, 2) := by decide +kernel
theorem dX12_find_91 : decode cX12_find 91 = .ok (.iload_n 3, 1) := by decide +kernel
theorem dX12_find_92 : decode cX12_find 92 = .ok (.imul, 1) := by decide +kernel
theorem dX12_find_93 : decode cX12_find 93 = .ok (.iload 5, 2) := by decide +kernel
theorem dX12_find_95 : decode cX12_find 95 = .ok (.iadd, 1) := by decide +kernel
theorem dX12_find_96 : decode cX12_find 96 = .ok (.aload_n 0, 1) := by decide +kernel
theorem dX12_find_97 : decode cX12_find 97 = .ok (.getfield 53, 3) := by decide +kernel
theorem dX12_find_100 : decode cX12_find 100 = .ok (.iload 5, 2) := by decide +kernel
theorem dX12_find_102 : decode cX12_find 102 = .ok (.iaload, 1) := by decide +kernel
theorem dX12_find_103 : decode cX12_find 103 = .ok (.iastore, 1) := by decide +kernel
theorem dX12_find_104 : decode cX12_find 104 = .ok (.iinc 5 1, 3) := by decide +kernel
theorem dX12_find_107 : decode cX12_find 107 = .ok (.goto (-29), 3) := by decide +kernel
theorem dX12_find_110 : decode cX12_find 110 = .ok (.aload_n 0, 1) := by decide +kernel
theorem dX12_find_111 : decode cX12_find 111 = .ok (.bipush 60, 2) := by decide +kernel
theorem dX12_find_113 : decode cX12_find 113 = .ok (.iload_n 3, 1) := by decide +kernel
theorem dX12_find_114 : decode cX12_find 114 = .ok (.imul, 1) := by decide +kernel
theorem dX12_find_115 : decode cX12_find 115 = .ok (.iload 4, 2) := by decide +kernel
theorem dX12_find_117 : decode cX12_find 117 = .ok (.invokevirtual 566, 3) := by decide +kernel
theorem dX12_find_120 : decode cX12_find 120 = .ok (.aload_n 0, 1) := by decide +kernel
theorem dX12_find_121 : decode cX12_find 121 = .ok (.getfield 550, 3) := by decide +kernel
theorem dX12_find_124 : decode cX12_find 124 = .ok (.iconst (-1), 1) := by decide +kernel
theorem dX12_find_125 : decode cX12_find 125 = .ok (.if_icmp .eq 16, 3) := by decide +kernel
theorem dX12_find_128 : decode cX12_find 128 = .ok (.aload_n 0, 1) := by decide +kernel
theorem dX12_find_129 : decode cX12_find 129 = .ok (.iconst 0, 1) := by decide +kernel
theorem dX12_find_130 : decode cX12_find 130 = .ok (.putfield 772, 3) := by decide +kernel
theorem dX12_find_133 : decode cX12_find 133 = .ok (.bipush (-2), 2) := by decide +kernel
theorem dX12_find_135 : decode cX12_find 135 = .ok (.aload_n 0, 1) := by decide +kernel
theorem dX12_find_136 : decode cX12_find 136 = .ok (.getfield 550, 3) := by decide +kernel
theorem dX12_find_139 : decode cX12_find 139 = .ok (.isub, 1) := by decide +kernel
theorem dX12_find_140 : decode cX12_find 140 = .ok (.ireturn, 1) := by decide +kernel
theorem dX12_find_141 : decode cX12_find 141 = .ok (.aload_n 0, 1) := by decide +kernel
theorem dX12_find_142 : decode cX12_find 142 = .ok (.iload_n 1, 1) := by decide +kernel
theorem dX12_find_143 : decode cX12_find 143 = .ok (.iconst 3, 1) := by decide +kernel
theorem dX12_find_144 : decode cX12_find 144 = .ok (.iconst 0, 1) := by decide +kernel
theorem dX12_find_145 : decode cX12_find 145 = .ok (.invokevirtual 783, 3) := by decide +kernel
theorem dX12_find_148 : decode cX12_find 148 = .ok (.istore 5, 2) := by decide +kernel
theorem dX12_find_150 : decode cX12_find 150 = .ok (.aload_n 0, 1) := by decide +kernel
theorem dX12_find_151 : decode cX12_find 151 = .ok (.iload_n 3, 1) := by decide +kernel
theorem dX12_find_152 : decode cX12_find 152 = .ok (.invokevirtual 786, 3) := by decide +kernel
theorem dX12_find_155 : decode cX12_find 155 = .ok (.aload_n 0, 1) := by decide +kernel
theorem dX12_find_156 : decode cX12_find 156 = .ok (.getfield 16, 3) := by decide +kernel
theorem dX12_find_159 : decode cX12_find 159 = .ok (.iload_n 3, 1) := by decide +kernel
theorem dX12_find_160 : decode cX12_find 160 = .ok (.iload_n 2, 1) := by decide +kernel
theorem dX12_find_161 : decode cX12_find 161 = .ok (.iastore, 1) := by decide +kernel
theorem dX12_find_162 : decode cX12_find 162 = .ok (.iload 5, 2) := by decide +kernel
theorem dX12_find_164 : decode cX12_find 164 = .ok (.ireturn, 1) := by decide +kernel
theorem dX12_request_0 : decode cX12_request 0 = .ok (.aload_n 0, 1) := by decide +kernel
theorem dX12_request_1 : decode cX12_request 1 = .ok (.iload_n 1, 1) := by decide +kernel
theorem dX12_request_2 : decode cX12_request 2 = .ok (.ifCond .lt 20, 3) := by decide +kernel
theorem dX12_request_5 : decode cX12_request 5 = .ok (.iload_n 1, 1) := by decide +kernel
theorem dX12_request_6 : decode cX12_request 6 = .ok (.aload_n 0, 1) := by decide +kernel
theorem dX12_request_7 : decode cX12_request 7 = .ok (.getfield 333, 3) := by decide +kernel
theorem dX12_request_10 : decode cX12_request 10 = .ok (.if_icmp .ge 12, 3) := by decide +kernel
theorem dX12_request_13 : decode cX12_request 13 = .ok (.iload_n 2, 1) := by decide +kernel
theorem dX12_request_14 : decode cX12_request 14 = .ok (.ifCond .lt 8, 3) := by decide +kernel
theorem dX12_request_17 : decode cX12_request 17 = .ok (.iload_n 2, 1) := by decide +kernel
theorem dX12_request_18 : decode cX12_request 18 = .ok (.iconst 5, 1) := by decide +kernel
theorem dX12_request_19 : decode cX12_request 19 = .ok (.if_icmp .le 7, 3) := by decide +kernel
theorem dX12_request_22 : decode cX12_request 22 = .ok (.iconst 1, 1) := by decide +kernel
theorem dX12_request_23 : decode cX12_request 23 = .ok (.goto 4, 3) := by decide +kernel
theorem dX12_request_26 : decode cX12_request 26 = .ok (.iconst 0, 1) := by decide +kernel
theorem dX12_request_27 : decode cX12_request 27 = .ok (.putfield 317, 3) := by decide +kernel
theorem dX12_request_30 : decode cX12_request 30 = .ok (.aload_n 0, 1) := by decide +kernel
theorem dX12_request_31 : decode cX12_request 31 = .ok (.getfield 317, 3) := by decide +kernel
theorem dX12_request_34 : decode cX12_request 34 = .ok (.ifCond .le 5, 3) := by decide +kernel
theorem dX12_request_37 : decode cX12_request 37 = .ok (.iconst 0, 1) := by decide +kernel
theorem dX12_request_38 : decode cX12_request 38 = .ok (.ireturn, 1) := by decide +kernel
theorem dX12_request_39 : decode cX12_request 39 = .ok (.aload_n 0, 1) := by decide +kernel
theorem dX12_request_40 : decode cX12_request 40 = .ok (.getfield 7, 3) := by decide +kernel
theorem dX12_request_43 : decode cX12_request 43 = .ok (.iload_n 1, 1) := by decide +kernel
theorem dX12_request_44 : decode cX12_request 44 = .ok (.iaload, 1) := by decide +kernel
theorem dX12_request_45 : decode cX12_request 45 = .ok (.iconst 3, 1) := by decide +kernel
theorem dX12_request_46 : decode cX12_request 46 = .ok (.if_icmp .ne 17, 3) := by decide +kernel
theorem dX12_request_49 : decode cX12_request 49 = .ok (.aload_n 0, 1) := by decide +kernel
theorem dX12_request_50 : decode cX12_request 50 = .ok (.getfield 22, 3) := by decide +kernel
theorem dX12_request_53 : decode cX12_request 53 = .ok (.iload_n 1, 1) := by decide +kernel
theorem dX12_request_54 : decode cX12_request 54 = .ok (.iaload, 1) := by decide +kernel
theorem dX12_request_55 : decode cX12_request 55 = .ok (.iconst 1, 1) := by decide +kernel
theorem dX12_request_56 : decode cX12_request 56 = .ok (.if_icmp .ne 7, 3) := by decide +kernel
theorem dX12_request_59 : decode cX12_request 59 = .ok (.iconst 1, 1) := by decide +kernel
theorem dX12_request_60 : decode cX12_request 60 = .ok (.goto 4, 3) := by decide +kernel
theorem dX12_request_63 : decode cX12_request 63 = .ok (.iconst 0, 1) := by decide +kernel
theorem dX12_request_64 : decode cX12_request 64 = .ok (.istore_n 3, 1) := by decide +kernel
theorem dX12_request_65 : decode cX12_request 65 = .ok (.iload_n 2, 1) := by decide +kernel
theorem dX12_request_66 : decode cX12_request 66 = .ok (.ifCond .ne 12, 3) := by decide +kernel
theorem dX12_request_69 : decode cX12_request 69 = .ok (.aload_n 0, 1) := by decide +kernel
theorem dX12_request_70 : decode cX12_request 70 = .ok (.getfield 22, 3) := by decide +kernel
theorem dX12_request_73 : decode cX12_request 73 = .ok (.iload_n 1, 1) := by decide +kernel
theorem dX12_request_74 : decode cX12_request 74 = .ok (.iaload, 1) := by decide +kernel
theorem dX12_request_75 : decode cX12_request 75 = .ok (.goto 73, 3) := by decide +kernel
theorem dX12_request_78 : decode cX12_request 78 = .ok (.iload_n 2, 1) := by decide +kernel
theorem dX12_request_79 : decode cX12_request 79 = .ok (.iconst 1, 1) := by decide +kernel
theorem dX12_request_80 : decode cX12_request 80 = .ok (.if_icmp .ne 12, 3) := by decide +kernel
theorem dX12_request_83 : decode cX12_request 83 = .ok (.aload_n 0, 1) := by decide +kernel
theorem dX12_request_84 : decode cX12_request 84 = .ok (.getfield 7, 3) := by decide +kernel
theorem dX12_request_87 : decode cX12_request 87 = .ok (.iload_n 1, 1) := by decide +kernel
theorem dX12_request_88 : decode cX12_request 88 = .ok (.iaload, 1) := by decide +kernel
theorem dX12_request_89 : decode cX12_request 89 = .ok (.goto 59, 3) := by decide +kernel
theorem dX12_request_92 : decode cX12_request 92 = .ok (.iload_n 2, 1) := by decide +kernel
theorem dX12_request_93 : decode cX12_request 93 = .ok (.iconst 2, 1) := by decide +kernel
theorem dX12_request_94 : decode cX12_request 94 = .ok (.if_icmp .ne 12, 3) := by decide +kernel
theorem dX12_request_97 : decode cX12_request 97 = .ok (.aload_n 0, 1) := by decide +kernel
theorem dX12_request_98 : decode cX12_request 98 = .ok (.getfield 19, 3) := by decide +kernel
theorem dX12_request_101 : decode cX12_request 101 = .ok (.iload_n 1, 1) := by decide +kernel
theorem dX12_request_102 : decode cX12_request 102 = .ok (.iaload, 1) := by decide +kernel
theorem dX12_request_103 : decode cX12_request 103 = .ok (.goto 45, 3) := by decide +kernel
theorem dX12_request_106 : decode cX12_request 106 = .ok (.iload_n 2, 1) := by decide +kernel
theorem dX12_request_107 : decode cX12_request 107 = .ok (.iconst 3, 1) := by decide +kernel
theorem dX12_request_108 : decode cX12_request 108 = .ok (.if_icmp .ne 12, 3) := by decide +kernel
theorem dX12_request_111 : decode cX12_request 111 = .ok (.aload_n 0, 1) := by decide +kernel
theorem dX12_request_112 : decode cX12_request 112 = .ok (.getfield 31, 3) := by decide +kernel
theorem dX12_request_115 : decode cX12_request 115 = .ok (.iload_n 1, 1) := by decide +kernel
theorem dX12_request_116 : decode cX12_request 116 = .ok (.iaload, 1) := by decide +kernel
theorem dX12_request_117 : decode cX12_request 117 = .ok (.goto 31, 3) := by decide +kernel
theorem dX12_request_120 : decode cX12_request 120 = .ok (.iload_n 2, 1) := by decide +kernel
theorem dX12_request_121 : decode cX12_request 121 = .ok (.iconst 4, 1) := by decide +kernel
theorem dX12_request_122 : decode cX12_request 122 = .ok (.if_icmp .ne 12, 3) := by decide +kernel
theorem dX12_request_125 : decode cX12_request 125 = .ok (.aload_n 0, 1) := by decide +kernel
theorem dX12_request_126 : decode cX12_request 126 = .ok (.getfield 25, 3) := by decide +kernel
theorem dX12_request_129 : decode cX12_request 129 = .ok (.iload_n 1, 1) := by decide +kernel
theorem dX12_request_130 : decode cX12_request 130 = .ok (.iaload, 1) := by decide +kernel
theorem dX12_request_131 : decode cX12_request 131 = .ok (.goto 17, 3) := by decide +kernel
theorem dX12_request_134 : decode cX12_request 134 = .ok (.iload_n 3, 1) := by decide +kernel
theorem dX12_request_135 : decode cX12_request 135 = .ok (.ifCond .eq 12, 3) := by decide +kernel
theorem dX12_request_138 : decode cX12_request 138 = .ok (.aload_n 0, 1) := by decide +kernel
theorem dX12_request_139 : decode cX12_request 139 = .ok (.getfield 38, 3) := by decide +kernel
theorem dX12_request_142 : decode cX12_request 142 = .ok (.iload_n 1, 1) := by decide +kernel
theorem dX12_request_143 : decode cX12_request 143 = .ok (.iaload, 1) := by decide +kernel
theorem dX12_request_144 : decode cX12_request 144 = .ok (.goto 4, 3) := by decide +kernel
theorem dX12_request_147 : decode cX12_request 147 = .ok (.iconst 0, 1) := by decide +kernel
theorem dX12_request_148 : decode cX12_request 148 = .ok (.ireturn, 1) := by decide +kernel
theorem dX12_hit_0 : decode cX12_hit 0 = .ok (.iload_n 1, 1) := by decide +kernel
theorem dX12_hit_1 : decode cX12_hit 1 = .ok (.ifCond .lt 58, 3) := by decide +kernel
theorem dX12_hit_4 : decode cX12_hit 4 = .ok (.iload_n 1, 1) := by decide +kernel
theorem dX12_hit_5 : decode cX12_hit 5 = .ok (.aload_n 0, 1) := by decide +kernel
theorem dX12_hit_6 : decode cX12_hit 6 = .ok (.getfield 333, 3) := by decide +kernel
theorem dX12_hit_9 : decode cX12_hit 9 = .ok (.if_icmp .ge 50, 3) := by decide +kernel
theorem dX12_hit_12 : decode cX12_hit 12 = .ok (.iload_n 3, 1) := by decide +kernel
theorem dX12_hit_13 : decode cX12_hit 13 = .ok (.ifCond .lt 46, 3) := by decide +kernel
theorem dX12_hit_16 : decode cX12_hit 16 = .ok (.iload_n 3, 1) := by decide +kernel
theorem dX12_hit_17 : decode cX12_hit 17 = .ok (.iconst 1, 1) := by decide +kernel
theorem dX12_hit_18 : decode cX12_hit 18 = .ok (.if_icmp .gt 41, 3) := by decide +kernel
theorem dX12_hit_21 : decode cX12_hit 21 = .ok (.aload_n 0, 1) := by decide +kernel
theorem dX12_hit_22 : decode cX12_hit 22 = .ok (.getfield 7, 3) := by decide +kernel
theorem dX12_hit_25 : decode cX12_hit 25 = .ok (.iload_n 1, 1) := by decide +kernel
theorem dX12_hit_26 : decode cX12_hit 26 = .ok (.iaload, 1) := by decide +kernel
theorem dX12_hit_27 : decode cX12_hit 27 = .ok (.iconst 3, 1) := by decide +kernel
theorem dX12_hit_28 : decode cX12_hit 28 = .ok (.if_icmp .ne 31, 3) := by decide +kernel
theorem dX12_hit_31 : decode cX12_hit 31 = .ok (.aload_n 0, 1) := by decide +kernel
theorem dX12_hit_32 : decode cX12_hit 32 = .ok (.getfield 22, 3) := by decide +kernel
theorem dX12_hit_35 : decode cX12_hit 35 = .ok (.iload_n 1, 1) := by decide +kernel
theorem dX12_hit_36 : decode cX12_hit 36 = .ok (.iaload, 1) := by decide +kernel
theorem dX12_hit_37 : decode cX12_hit 37 = .ok (.iconst 1, 1) := by decide +kernel
theorem dX12_hit_38 : decode cX12_hit 38 = .ok (.if_icmp .ne 21, 3) := by decide +kernel
theorem dX12_hit_41 : decode cX12_hit 41 = .ok (.iload_n 2, 1) := by decide +kernel
theorem dX12_hit_42 : decode cX12_hit 42 = .ok (.ifCond .lt 17, 3) := by decide +kernel
theorem dX12_hit_45 : decode cX12_hit 45 = .ok (.iload_n 2, 1) := by decide +kernel
theorem dX12_hit_46 : decode cX12_hit 46 = .ok (.aload_n 0, 1) := by decide +kernel
theorem dX12_hit_47 : decode cX12_hit 47 = .ok (.getfield 38, 3) := by decide +kernel
theorem dX12_hit_50 : decode cX12_hit 50 = .ok (.iload_n 1, 1) := by decide +kernel
theorem dX12_hit_51 : decode cX12_hit 51 = .ok (.iaload, 1) := by decide +kernel
theorem dX12_hit_52 : decode cX12_hit 52 = .ok (.if_icmp .ge 7, 3) := by decide +kernel
theorem dX12_hit_55 : decode cX12_hit 55 = .ok (.iconst 1, 1) := by decide +kernel
theorem dX12_hit_56 : decode cX12_hit 56 = .ok (.goto 4, 3) := by decide +kernel
theorem dX12_hit_59 : decode cX12_hit 59 = .ok (.iconst 0, 1) := by decide +kernel
theorem dX12_hit_60 : decode cX12_hit 60 = .ok (.istore 4, 2) := by decide +kernel
theorem dX12_hit_62 : decode cX12_hit 62 = .ok (.aload_n 0, 1) := by decide +kernel
theorem dX12_hit_63 : decode cX12_hit 63 = .ok (.iload 4, 2) := by decide +kernel
theorem dX12_hit_65 : decode cX12_hit 65 = .ok (.ifCond .eq 7, 3) := by decide +kernel
theorem dX12_hit_68 : decode cX12_hit 68 = .ok (.iconst 0, 1) := by decide +kernel
theorem dX12_hit_69 : decode cX12_hit 69 = .ok (.goto 4, 3) := by decide +kernel
theorem dX12_hit_72 : decode cX12_hit 72 = .ok (.iconst 1, 1) := by decide +kernel
theorem dX12_hit_73 : decode cX12_hit 73 = .ok (.putfield 317, 3) := by decide +kernel
theorem dX12_hit_76 : decode cX12_hit 76 = .ok (.iload 4, 2) := by decide +kernel
theorem dX12_hit_78 : decode cX12_hit 78 = .ok (.ifCond .ne 7, 3) := by decide +kernel
theorem dX12_hit_81 : decode cX12_hit 81 = .ok (.iconst 0, 1) := by decide +kernel
theorem dX12_hit_82 : decode cX12_hit 82 = .ok (.goto 32, 3) := by decide +kernel
theorem dX12_hit_85 : decode cX12_hit 85 = .ok (.iload_n 3, 1) := by decide +kernel
theorem dX12_hit_86 : decode cX12_hit 86 = .ok (.ifCond .ne 17, 3) := by decide +kernel
theorem dX12_hit_89 : decode cX12_hit 89 = .ok (.aload_n 0, 1) := by decide +kernel
theorem dX12_hit_90 : decode cX12_hit 90 = .ok (.getfield 41, 3) := by decide +kernel
theorem dX12_hit_93 : decode cX12_hit 93 = .ok (.bipush 10, 2) := by decide +kernel
theorem dX12_hit_95 : decode cX12_hit 95 = .ok (.iload_n 1, 1) := by decide +kernel
theorem dX12_hit_96 : decode cX12_hit 96 = .ok (.imul, 1) := by decide +kernel
theorem dX12_hit_97 : decode cX12_hit 97 = .ok (.iload_n 2, 1) := by decide +kernel
theorem dX12_hit_98 : decode cX12_hit 98 = .ok (.iadd, 1) := by decide +kernel
theorem dX12_hit_99 : decode cX12_hit 99 = .ok (.iaload, 1) := by decide +kernel
theorem dX12_hit_100 : decode cX12_hit 100 = .ok (.goto 14, 3) := by decide +kernel
theorem dX12_hit_103 : decode cX12_hit 103 = .ok (.aload_n 0, 1) := by decide +kernel
theorem dX12_hit_104 : decode cX12_hit 104 = .ok (.getfield 44, 3) := by decide +kernel
theorem dX12_hit_107 : decode cX12_hit 107 = .ok (.bipush 10, 2) := by decide +kernel
theorem dX12_hit_109 : decode cX12_hit 109 = .ok (.iload_n 1, 1) := by decide +kernel
theorem dX12_hit_110 : decode cX12_hit 110 = .ok (.imul, 1) := by decide +kernel
theorem dX12_hit_111 : decode cX12_hit 111 = .ok (.iload_n 2, 1) := by decide +kernel
theorem dX12_hit_112 : decode cX12_hit 112 = .ok (.iadd, 1) := by decide +kernel
theorem dX12_hit_113 : decode cX12_hit 113 = .ok (.iaload, 1) := by decide +kernel
theorem dX12_hit_114 : decode cX12_hit 114 = .ok (.ireturn, 1) := by decide +kernel
theorem dX12_link_0 : decode cX12_link 0 = .ok (.aload_n 0, 1) := by decide +kernel
theorem dX12_link_1 : decode cX12_link 1 = .ok (.aload_n 0, 1) := by decide +kernel
theorem dX12_link_2 : decode cX12_link 2 = .ok (.iload_n 1, 1) := by decide +kernel
theorem dX12_link_3 : decode cX12_link 3 = .ok (.invokevirtual 789, 3) := by decide +kernel
theorem dX12_link_6 : decode cX12_link 6 = .ok (.ifCond .eq 15, 3) := by decide +kernel
theorem dX12_link_9 : decode cX12_link 9 = .ok (.aload_n 0, 1) := by decide +kernel
theorem dX12_link_10 : decode cX12_link 10 = .ok (.iload_n 2, 1) := by decide +kernel
theorem dX12_link_11 : decode cX12_link 11 = .ok (.invokevirtual 789, 3) := by decide +kernel
theorem dX12_link_14 : decode cX12_link 14 = .ok (.ifCond .eq 7, 3) := by decide +kernel
theorem dX12_link_17 : decode cX12_link 17 = .ok (.iconst 0, 1) := by decide +kernel
theorem dX12_link_18 : decode cX12_link 18 = .ok (.goto 4, 3) := by decide +kernel
theorem dX12_link_21 : decode cX12_link 21 = .ok (.iconst 1, 1) := by decide +kernel
theorem dX12_link_22 : decode cX12_link 22 = .ok (.putfield 317, 3) := by decide +kernel
theorem dX12_link_25 : decode cX12_link 25 = .ok (.aload_n 0, 1) := by decide +kernel
theorem dX12_link_26 : decode cX12_link 26 = .ok (.getfield 317, 3) := by decide +kernel
theorem dX12_link_29 : decode cX12_link 29 = .ok (.ifCond .le 7, 3) := by decide +kernel
theorem dX12_link_32 : decode cX12_link 32 = .ok (.iconst 0, 1) := by decide +kernel
theorem dX12_link_33 : decode cX12_link 33 = .ok (.goto 14, 3) := by decide +kernel
theorem dX12_link_36 : decode cX12_link 36 = .ok (.aload_n 0, 1) := by decide +kernel
theorem dX12_link_37 : decode cX12_link 37 = .ok (.getfield 209, 3) := by decide +kernel
theorem dX12_link_40 : decode cX12_link 40 = .ok (.bipush 6, 2) := by decide +kernel
theorem dX12_link_42 : decode cX12_link 42 = .ok (.iload_n 1, 1) := by decide +kernel
theorem dX12_link_43 : decode cX12_link 43 = .ok (.imul, 1) := by decide +kernel
theorem dX12_link_44 : decode cX12_link 44 = .ok (.iload_n 2, 1) := by decide +kernel
theorem dX12_link_45 : decode cX12_link 45 = .ok (.iadd, 1) := by decide +kernel
theorem dX12_link_46 : decode cX12_link 46 = .ok (.iaload, 1) := by decide +kernel
theorem dX12_link_47 : decode cX12_link 47 = .ok (.ireturn, 1) := by decide +kernel
theorem dX12_message_0 : decode cX12_message 0 = .ok (.aload_n 0, 1) := by decide +kernel
theorem dX12_message_1 : decode cX12_message 1 = .ok (.aload_n 0, 1) := by decide +kernel
theorem dX12_message_2 : decode cX12_message 2 = .ok (.iload_n 1, 1) := by decide +kernel
theorem dX12_message_3 : decode cX12_message 3 = .ok (.invokevirtual 789, 3) := by decide +kernel
theorem dX12_message_6 : decode cX12_message 6 = .ok (.ifCond .eq 45, 3) := by decide +kernel
theorem dX12_message_9 : decode cX12_message 9 = .ok (.aload_n 0, 1) := by decide +kernel
theorem dX12_message_10 : decode cX12_message 10 = .ok (.iload_n 2, 1) := by decide +kernel
theorem dX12_message_11 : decode cX12_message 11 = .ok (.invokevirtual 789, 3) := by decide +kernel
theorem dX12_message_14 : decode cX12_message 14 = .ok (.ifCond .eq 37, 3) := by decide +kernel
theorem dX12_message_17 : decode cX12_message 17 = .ok (.iload_n 3, 1) := by decide +kernel
theorem dX12_message_18 : decode cX12_message 18 = .ok (.ifCond .lt 33, 3) := by decide +kernel
theorem dX12_message_21 : decode cX12_message 21 = .ok (.iload 4, 2) := by decide +kernel
theorem dX12_message_23 : decode cX12_message 23 = .ok (.ifCond .lt 28, 3) := by decide +kernel
theorem dX12_message_26 : decode cX12_message 26 = .ok (.iload 4, 2) := by decide +kernel
theorem dX12_message_28 : decode cX12_message 28 = .ok (.iconst 5, 1) := by decide +kernel
theorem dX12_message_29 : decode cX12_message 29 = .ok (.if_icmp .gt 22, 3) := by decide +kernel
theorem dX12_message_32 : decode cX12_message 32 = .ok (.iload_n 3, 1) := by decide +kernel
theorem dX12_message_33 : decode cX12_message 33 = .ok (.aload_n 0, 1) := by decide +kernel
theorem dX12_message_34 : decode cX12_message 34 = .ok (.getfield 209, 3) := by decide +kernel
theorem dX12_message_37 : decode cX12_message 37 = .ok (.bipush 6, 2) := by decide +kernel
theorem dX12_message_39 : decode cX12_message 39 = .ok (.iload_n 1, 1) := by decide +kernel
theorem dX12_message_40 : decode cX12_message 40 = .ok (.imul, 1) := by decide +kernel
theorem dX12_message_41 : decode cX12_message 41 = .ok (.iload_n 2, 1) := by decide +kernel
theorem dX12_message_42 : decode cX12_message 42 = .ok (.iadd, 1) := by decide +kernel
theorem dX12_message_43 : decode cX12_message 43 = .ok (.iaload, 1) := by decide +kernel
theorem dX12_message_44 : decode cX12_message 44 = .ok (.if_icmp .ge 7, 3) := by decide +kernel
theorem dX12_message_47 : decode cX12_message 47 = .ok (.iconst 0, 1) := by decide +kernel
theorem dX12_message_48 : decode cX12_message 48 = .ok (.goto 4, 3) := by decide +kernel
theorem dX12_message_51 : decode cX12_message 51 = .ok (.iconst 1, 1) := by decide +kernel
theorem dX12_message_52 : decode cX12_message 52 = .ok (.putfield 317, 3) := by decide +kernel
theorem dX12_message_55 : decode cX12_message 55 = .ok (.aload_n 0, 1) := by decide +kernel
theorem dX12_message_56 : decode cX12_message 56 = .ok (.getfield 317, 3) := by decide +kernel
theorem dX12_message_59 : decode cX12_message 59 = .ok (.ifCond .le 5, 3) := by decide +kernel
theorem dX12_message_62 : decode cX12_message 62 = .ok (.iconst 0, 1) := by decide +kernel
theorem dX12_message_63 : decode cX12_message 63 = .ok (.ireturn, 1) := by decide +kernel
theorem dX12_message_64 : decode cX12_message 64 = .ok (.bipush 6, 2) := by decide +kernel
theorem dX12_message_66 : decode cX12_message 66 = .ok (.iload_n 1, 1) := by decide +kernel
theorem dX12_message_67 : decode cX12_message 67 = .ok (.imul, 1) := by decide +kernel
theorem dX12_message_68 : decode cX12_message 68 = .ok (.iload_n 2, 1) := by decide +kernel
theorem dX12_message_69 : decode cX12_message 69 = .ok (.iadd, 1) := by decide +kernel
theorem dX12_message_70 : decode cX12_message 70 = .ok (.istore 5, 2) := by decide +kernel
theorem dX12_message_72 : decode cX12_message 72 = .ok (.aload_n 0, 1) := by decide +kernel
theorem dX12_message_73 : decode cX12_message 73 = .ok (.getfield 216, 3) := by decide +kernel
theorem dX12_message_76 : decode cX12_message 76 = .ok (.iload 5, 2) := by decide +kernel
theorem dX12_message_78 : decode cX12_message 78 = .ok (.bipush 60, 2) := by decide +kernel
theorem dX12_message_80 : decode cX12_message 80 = .ok (.imul, 1) := by decide +kernel
theorem dX12_message_81 : decode cX12_message 81 = .ok (.aload_n 0, 1) := by decide +kernel
theorem dX12_message_82 : decode cX12_message 82 = .ok (.getfield 212, 3) := by decide +kernel
theorem dX12_message_85 : decode cX12_message 85 = .ok (.iload 5, 2) := by decide +kernel
theorem dX12_message_87 : decode cX12_message 87 = .ok (.iaload, 1) := by decide +kernel
theorem dX12_message_88 : decode cX12_message 88 = .ok (.iload_n 3, 1) := by decide +kernel
theorem dX12_message_89 : decode cX12_message 89 = .ok (.iadd, 1) := by decide +kernel
theorem dX12_message_90 : decode cX12_message 90 = .ok (.bipush 60, 2) := by decide +kernel
theorem dX12_message_92 : decode cX12_message 92 = .ok (.irem, 1) := by decide +kernel
theorem dX12_message_93 : decode cX12_message 93 = .ok (.iadd, 1) := by decide +kernel
theorem dX12_message_94 : decode cX12_message 94 = .ok (.bipush 34, 2) := by decide +kernel
theorem dX12_message_96 : decode cX12_message 96 = .ok (.imul, 1) := by decide +kernel
theorem dX12_message_97 : decode cX12_message 97 = .ok (.iload 4, 2) := by decide +kernel
theorem dX12_message_99 : decode cX12_message 99 = .ok (.iadd, 1) := by decide +kernel
theorem dX12_message_100 : decode cX12_message 100 = .ok (.iaload, 1) := by decide +kernel
theorem dX12_message_101 : decode cX12_message 101 = .ok (.ireturn, 1) := by decide +kernel
theorem dX12_deliver_0 : decode cX12_deliver 0 = .ok (.aload_n 0, 1) := by decide +kernel
theorem dX12_deliver_1 : decode cX12_deliver 1 = .ok (.aload_n 0, 1) := by decide +kernel
theorem dX12_deliver_2 : decode cX12_deliver 2 = .ok (.iload_n 1, 1) := by decide +kernel
theorem dX12_deliver_3 : decode cX12_deliver 3 = .ok (.invokevirtual 789, 3) := by decide +kernel
theorem dX12_deliver_6 : decode cX12_deliver 6 = .ok (.ifCond .eq 15, 3) := by decide +kernel
theorem dX12_deliver_9 : decode cX12_deliver 9 = .ok (.aload_n 0, 1) := by decide +kernel
theorem dX12_deliver_10 : decode cX12_deliver 10 = .ok (.iload_n 2, 1) := by decide +kernel
theorem dX12_deliver_11 : decode cX12_deliver 11 = .ok (.invokevirtual 789, 3) := by decide +kernel
theorem dX12_deliver_14 : decode cX12_deliver 14 = .ok (.ifCond .eq 7, 3) := by decide +kernel
theorem dX12_deliver_17 : decode cX12_deliver 17 = .ok (.iconst 0, 1) := by decide +kernel
theorem dX12_deliver_18 : decode cX12_deliver 18 = .ok (.goto 4, 3) := by decide +kernel
theorem dX12_deliver_21 : decode cX12_deliver 21 = .ok (.iconst 1, 1) := by decide +kernel
theorem dX12_deliver_22 : decode cX12_deliver 22 = .ok (.putfield 317, 3) := by decide +kernel
theorem dX12_deliver_25 : decode cX12_deliver 25 = .ok (.aload_n 0, 1) := by decide +kernel
theorem dX12_deliver_26 : decode cX12_deliver 26 = .ok (.getfield 317, 3) := by decide +kernel
theorem dX12_deliver_29 : decode cX12_deliver 29 = .ok (.ifCond .gt 17, 3) := by decide +kernel
theorem dX12_deliver_32 : decode cX12_deliver 32 = .ok (.aload_n 0, 1) := by decide +kernel
theorem dX12_deliver_33 : decode cX12_deliver 33 = .ok (.getfield 209, 3) := by decide +kernel
theorem dX12_deliver_36 : decode cX12_deliver 36 = .ok (.bipush 6, 2) := by decide +kernel
theorem dX12_deliver_38 : decode cX12_deliver 38 = .ok (.iload_n 1, 1) := by decide +kernel
theorem dX12_deliver_39 : decode cX12_deliver 39 = .ok (.imul, 1) := by decide +kernel
theorem dX12_deliver_40 : decode cX12_deliver 40 = .ok (.iload_n 2, 1) := by decide +kernel
theorem dX12_deliver_41 : decode cX12_deliver 41 = .ok (.iadd, 1) := by decide +kernel
theorem dX12_deliver_42 : decode cX12_deliver 42 = .ok (.iaload, 1) := by decide +kernel
theorem dX12_deliver_43 : decode cX12_deliver 43 = .ok (.ifCond .ne 7, 3) := by decide +kernel
theorem dX12_deliver_46 : decode cX12_deliver 46 = .ok (.iconst 0, 1) := by decide +kernel
theorem dX12_deliver_47 : decode cX12_deliver 47 = .ok (.goto 9, 3) := by decide +kernel
theorem dX12_deliver_50 : decode cX12_deliver 50 = .ok (.aload_n 0, 1) := by decide +kernel
theorem dX12_deliver_51 : decode cX12_deliver 51 = .ok (.iload_n 1, 1) := by decide +kernel
theorem dX12_deliver_52 : decode cX12_deliver 52 = .ok (.iload_n 2, 1) := by decide +kernel
theorem dX12_deliver_53 : decode cX12_deliver 53 = .ok (.invokevirtual 792, 3) := by decide +kernel
theorem dX12_deliver_56 : decode cX12_deliver 56 = .ok (.ireturn, 1) := by decide +kernel
theorem dX12_lose_0 : decode cX12_lose 0 = .ok (.aload_n 0, 1) := by decide +kernel
theorem dX12_lose_1 : decode cX12_lose 1 = .ok (.aload_n 0, 1) := by decide +kernel
theorem dX12_lose_2 : decode cX12_lose 2 = .ok (.iload_n 1, 1) := by decide +kernel
theorem dX12_lose_3 : decode cX12_lose 3 = .ok (.invokevirtual 789, 3) := by decide +kernel
theorem dX12_lose_6 : decode cX12_lose 6 = .ok (.ifCond .eq 15, 3) := by decide +kernel
theorem dX12_lose_9 : decode cX12_lose 9 = .ok (.aload_n 0, 1) := by decide +kernel
theorem dX12_lose_10 : decode cX12_lose 10 = .ok (.iload_n 2, 1) := by decide +kernel
theorem dX12_lose_11 : decode cX12_lose 11 = .ok (.invokevirtual 789, 3) := by decide +kernel
theorem dX12_lose_14 : decode cX12_lose 14 = .ok (.ifCond .eq 7, 3) := by decide +kernel
theorem dX12_lose_17 : decode cX12_lose 17 = .ok (.iconst 0, 1) := by decide +kernel
theorem dX12_lose_18 : decode cX12_lose 18 = .ok (.goto 4, 3) := by decide +kernel
theorem dX12_lose_21 : decode cX12_lose 21 = .ok (.iconst 1, 1) := by decide +kernel
theorem dX12_lose_22 : decode cX12_lose 22 = .ok (.putfield 317, 3) := by decide +kernel
theorem dX12_lose_25 : decode cX12_lose 25 = .ok (.aload_n 0, 1) := by decide +kernel
theorem dX12_lose_26 : decode cX12_lose 26 = .ok (.getfield 317, 3) := by decide +kernel
theorem dX12_lose_29 : decode cX12_lose 29 = .ok (.ifCond .gt 17, 3) := by decide +kernel
theorem dX12_lose_32 : decode cX12_lose 32 = .ok (.aload_n 0, 1) := by decide +kernel
theorem dX12_lose_33 : decode cX12_lose 33 = .ok (.getfield 209, 3) := by decide +kernel
theorem dX12_lose_36 : decode cX12_lose 36 = .ok (.bipush 6, 2) := by decide +kernel
theorem dX12_lose_38 : decode cX12_lose 38 = .ok (.iload_n 1, 1) := by decide +kernel
theorem dX12_lose_39 : decode cX12_lose 39 = .ok (.imul, 1) := by decide +kernel
theorem dX12_lose_40 : decode cX12_lose 40 = .ok (.iload_n 2, 1) := by decide +kernel
theorem dX12_lose_41 : decode cX12_lose 41 = .ok (.iadd, 1) := by decide +kernel
theorem dX12_lose_42 : decode cX12_lose 42 = .ok (.iaload, 1) := by decide +kernel
theorem dX12_lose_43 : decode cX12_lose 43 = .ok (.ifCond .ne 7, 3) := by decide +kernel
theorem dX12_lose_46 : decode cX12_lose 46 = .ok (.iconst 0, 1) := by decide +kernel
theorem dX12_lose_47 : decode cX12_lose 47 = .ok (.goto 9, 3) := by decide +kernel
theorem dX12_lose_50 : decode cX12_lose 50 = .ok (.aload_n 0, 1) := by decide +kernel
theorem dX12_lose_51 : decode cX12_lose 51 = .ok (.iload_n 1, 1) := by decide +kernel
theorem dX12_lose_52 : decode cX12_lose 52 = .ok (.iload_n 2, 1) := by decide +kernel
theorem dX12_lose_53 : decode cX12_lose 53 = .ok (.invokevirtual 766, 3) := by decide +kernel
theorem dX12_lose_56 : decode cX12_lose 56 = .ok (.ireturn, 1) := by decide +kernel
theorem dX12_tick_0 : decode cX12_tick 0 = .ok (.aload_n 0, 1) := by decide +kernel
theorem dX12_tick_1 : decode cX12_tick 1 = .ok (.iconst 0, 1) := by decide +kernel
theorem dX12_tick_2 : decode cX12_tick 2 = .ok (.putfield 317, 3) := by decide +kernel
theorem dX12_tick_5 : decode cX12_tick 5 = .ok (.aload_n 0, 1) := by decide +kernel
theorem dX12_tick_6 : decode cX12_tick 6 = .ok (.invokevirtual 795, 3) := by decide +kernel
theorem dX12_tick_9 : decode cX12_tick 9 = .ok (.ireturn, 1) := by decide +kernel
theorem dX12_run_0 : decode cX12_run 0 = .ok (.aload_n 0, 1) := by decide +kernel
theorem dX12_run_1 : decode cX12_run 1 = .ok (.iload_n 1, 1) := by decide +kernel
theorem dX12_run_2 : decode cX12_run 2 = .ok (.ifCond .lt 9, 3) := by decide +kernel
theorem dX12_run_5 : decode cX12_run 5 = .ok (.iload_n 1, 1) := by decide +kernel
theorem dX12_run_6 : decode cX12_run 6 = .ok (.bipush 60, 2) := by decide +kernel
theorem dX12_run_8 : decode cX12_run 8 = .ok (.if_icmp .le 7, 3) := by decide +kernel
theorem dX12_run_11 : decode cX12_run 11 = .ok (.iconst 1, 1) := by decide +kernel
theorem dX12_run_12 : decode cX12_run 12 = .ok (.goto 4, 3) := by decide +kernel
theorem dX12_run_15 : decode cX12_run 15 = .ok (.iconst 0, 1) := by decide +kernel
theorem dX12_run_16 : decode cX12_run 16 = .ok (.putfield 317, 3) := by decide +kernel
theorem dX12_run_19 : decode cX12_run 19 = .ok (.aload_n 0, 1) := by decide +kernel
theorem dX12_run_20 : decode cX12_run 20 = .ok (.getfield 342, 3) := by decide +kernel
theorem dX12_run_23 : decode cX12_run 23 = .ok (.istore_n 2, 1) := by decide +kernel
theorem dX12_run_24 : decode cX12_run 24 = .ok (.iconst 0, 1) := by decide +kernel
theorem dX12_run_25 : decode cX12_run 25 = .ok (.istore_n 3, 1) := by decide +kernel
theorem dX12_run_26 : decode cX12_run 26 = .ok (.iload_n 3, 1) := by decide +kernel
theorem dX12_run_27 : decode cX12_run 27 = .ok (.iload_n 1, 1) := by decide +kernel
theorem dX12_run_28 : decode cX12_run 28 = .ok (.if_icmp .ge 99, 3) := by decide +kernel
theorem dX12_run_31 : decode cX12_run 31 = .ok (.aload_n 0, 1) := by decide +kernel
theorem dX12_run_32 : decode cX12_run 32 = .ok (.getfield 317, 3) := by decide +kernel
theorem dX12_run_35 : decode cX12_run 35 = .ok (.ifCond .ne 92, 3) := by decide +kernel
theorem dX12_run_38 : decode cX12_run 38 = .ok (.iconst 0, 1) := by decide +kernel
theorem dX12_run_39 : decode cX12_run 39 = .ok (.istore 4, 2) := by decide +kernel
theorem dX12_run_41 : decode cX12_run 41 = .ok (.iload 4, 2) := by decide +kernel
theorem dX12_run_43 : decode cX12_run 43 = .ok (.aload_n 0, 1) := by decide +kernel
theorem dX12_run_44 : decode cX12_run 44 = .ok (.getfield 321, 3) := by decide +kernel
theorem dX12_run_47 : decode cX12_run 47 = .ok (.if_icmp .gt 68, 3) := by decide +kernel
theorem dX12_run_50 : decode cX12_run 50 = .ok (.iconst 0, 1) := by decide +kernel
theorem dX12_run_51 : decode cX12_run 51 = .ok (.istore 5, 2) := by decide +kernel
theorem dX12_run_53 : decode cX12_run 53 = .ok (.iload 5, 2) := by decide +kernel
theorem dX12_run_55 : decode cX12_run 55 = .ok (.aload_n 0, 1) := by decide +kernel
theorem dX12_run_56 : decode cX12_run 56 = .ok (.getfield 321, 3) := by decide +kernel
theorem dX12_run_59 : decode cX12_run 59 = .ok (.if_icmp .gt 50, 3) := by decide +kernel
theorem dX12_run_62 : decode cX12_run 62 = .ok (.aload_n 0, 1) := by decide +kernel
theorem dX12_run_63 : decode cX12_run 63 = .ok (.getfield 209, 3) := by decide +kernel
theorem dX12_run_66 : decode cX12_run 66 = .ok (.bipush 6, 2) := by decide +kernel
theorem dX12_run_68 : decode cX12_run 68 = .ok (.iload 4, 2) := by decide +kernel
theorem dX12_run_70 : decode cX12_run 70 = .ok (.imul, 1) := by decide +kernel
theorem dX12_run_71 : decode cX12_run 71 = .ok (.iload 5, 2) := by decide +kernel
theorem dX12_run_73 : decode cX12_run 73 = .ok (.iadd, 1) := by decide +kernel
theorem dX12_run_74 : decode cX12_run 74 = .ok (.iaload, 1) := by decide +kernel
theorem dX12_run_75 : decode cX12_run 75 = .ok (.istore 6, 2) := by decide +kernel
theorem dX12_run_77 : decode cX12_run 77 = .ok (.iconst 0, 1) := by decide +kernel
theorem dX12_run_78 : decode cX12_run 78 = .ok (.istore 7, 2) := by decide +kernel
theorem dX12_run_80 : decode cX12_run 80 = .ok (.iload 7, 2) := by decide +kernel
theorem dX12_run_82 : decode cX12_run 82 = .ok (.iload 6, 2) := by decide +kernel
theorem dX12_run_84 : decode cX12_run 84 = .ok (.if_icmp .ge 19, 3) := by decide +kernel
theorem dX12_run_87 : decode cX12_run 87 = .ok (.aload_n 0, 1) := by decide +kernel
theorem dX12_run_88 : decode cX12_run 88 = .ok (.iload 4, 2) := by decide +kernel
theorem dX12_run_90 : decode cX12_run 90 = .ok (.iload 5, 2) := by decide +kernel
theorem dX12_run_92 : decode cX12_run 92 = .ok (.invokevirtual 792, 3) := by decide +kernel
theorem dX12_run_95 : decode cX12_run 95 = .ok (.istore 8, 2) := by decide +kernel
theorem dX12_run_97 : decode cX12_run 97 = .ok (.iinc 7 1, 3) := by decide +kernel
theorem dX12_run_100 : decode cX12_run 100 = .ok (.goto (-20), 3) := by decide +kernel
theorem dX12_run_103 : decode cX12_run 103 = .ok (.iinc 5 1, 3) := by decide +kernel
theorem dX12_run_106 : decode cX12_run 106 = .ok (.goto (-53), 3) := by decide +kernel
theorem dX12_run_109 : decode cX12_run 109 = .ok (.iinc 4 1, 3) := by decide +kernel
theorem dX12_run_112 : decode cX12_run 112 = .ok (.goto (-71), 3) := by decide +kernel
theorem dX12_run_115 : decode cX12_run 115 = .ok (.aload_n 0, 1) := by decide +kernel
theorem dX12_run_116 : decode cX12_run 116 = .ok (.invokevirtual 795, 3) := by decide +kernel
theorem dX12_run_119 : decode cX12_run 119 = .ok (.istore 4, 2) := by decide +kernel
theorem dX12_run_121 : decode cX12_run 121 = .ok (.iinc 3 1, 3) := by decide +kernel
theorem dX12_run_124 : decode cX12_run 124 = .ok (.goto (-98), 3) := by decide +kernel
theorem dX12_run_127 : decode cX12_run 127 = .ok (.aload_n 0, 1) := by decide +kernel
theorem dX12_run_128 : decode cX12_run 128 = .ok (.getfield 342, 3) := by decide +kernel
theorem dX12_run_131 : decode cX12_run 131 = .ok (.iload_n 2, 1) := by decide +kernel
theorem dX12_run_132 : decode cX12_run 132 = .ok (.isub, 1) := by decide +kernel
theorem dX12_run_133 : decode cX12_run 133 = .ok (.ireturn, 1) := by decide +kernel
theorem dX12_up_0 : decode cX12_up 0 = .ok (.aload_n 0, 1) := by decide +kernel
theorem dX12_up_1 : decode cX12_up 1 = .ok (.aload_n 0, 1) := by decide +kernel
theorem dX12_up_2 : decode cX12_up 2 = .ok (.iload_n 1, 1) := by decide +kernel
theorem dX12_up_3 : decode cX12_up 3 = .ok (.invokevirtual 789, 3) := by decide +kernel
theorem dX12_up_6 : decode cX12_up 6 = .ok (.ifCond .eq 7, 3) := by decide +kernel
theorem dX12_up_9 : decode cX12_up 9 = .ok (.iconst 0, 1) := by decide +kernel
theorem dX12_up_10 : decode cX12_up 10 = .ok (.goto 4, 3) := by decide +kernel
theorem dX12_up_13 : decode cX12_up 13 = .ok (.iconst 1, 1) := by decide +kernel
theorem dX12_up_14 : decode cX12_up 14 = .ok (.putfield 317, 3) := by decide +kernel
theorem dX12_up_17 : decode cX12_up 17 = .ok (.aload_n 0, 1) := by decide +kernel
theorem dX12_up_18 : decode cX12_up 18 = .ok (.getfield 317, 3) := by decide +kernel
theorem dX12_up_21 : decode cX12_up 21 = .ok (.ifCond .ne 16, 3) := by decide +kernel
theorem dX12_up_24 : decode cX12_up 24 = .ok (.aload_n 0, 1) := by decide +kernel
theorem dX12_up_25 : decode cX12_up 25 = .ok (.getfield 77, 3) := by decide +kernel
theorem dX12_up_28 : decode cX12_up 28 = .ok (.iload_n 1, 1) := by decide +kernel
theorem dX12_up_29 : decode cX12_up 29 = .ok (.baload, 1) := by decide +kernel
theorem dX12_up_30 : decode cX12_up 30 = .ok (.ifCond .eq 7, 3) := by decide +kernel
theorem dX12_up_33 : decode cX12_up 33 = .ok (.iconst 1, 1) := by decide +kernel
theorem dX12_up_34 : decode cX12_up 34 = .ok (.goto 4, 3) := by decide +kernel
theorem dX12_up_37 : decode cX12_up 37 = .ok (.iconst 0, 1) := by decide +kernel
theorem dX12_up_38 : decode cX12_up 38 = .ok (.ireturn, 1) := by decide +kernel
theorem dX12_down_0 : decode cX12_down 0 = .ok (.aload_n 0, 1) := by decide +kernel
theorem dX12_down_1 : decode cX12_down 1 = .ok (.aload_n 0, 1) := by decide +kernel
theorem dX12_down_2 : decode cX12_down 2 = .ok (.iload_n 1, 1) := by decide +kernel
theorem dX12_down_3 : decode cX12_down 3 = .ok (.invokevirtual 789, 3) := by decide +kernel
theorem dX12_down_6 : decode cX12_down 6 = .ok (.ifCond .eq 7, 3) := by decide +kernel
theorem dX12_down_9 : decode cX12_down 9 = .ok (.iconst 0, 1) := by decide +kernel
theorem dX12_down_10 : decode cX12_down 10 = .ok (.goto 4, 3) := by decide +kernel
theorem dX12_down_13 : decode cX12_down 13 = .ok (.iconst 1, 1) := by decide +kernel
theorem dX12_down_14 : decode cX12_down 14 = .ok (.putfield 317, 3) := by decide +kernel
theorem dX12_down_17 : decode cX12_down 17 = .ok (.aload_n 0, 1) := by decide +kernel
theorem dX12_down_18 : decode cX12_down 18 = .ok (.getfield 317, 3) := by decide +kernel
theorem dX12_down_21 : decode cX12_down 21 = .ok (.ifCond .le 7, 3) := by decide +kernel
theorem dX12_down_24 : decode cX12_down 24 = .ok (.iconst 0, 1) := by decide +kernel
theorem dX12_down_25 : decode cX12_down 25 = .ok (.goto 8, 3) := by decide +kernel
theorem dX12_down_28 : decode cX12_down 28 = .ok (.aload_n 0, 1) := by decide +kernel
theorem dX12_down_29 : decode cX12_down 29 = .ok (.iload_n 1, 1) := by decide +kernel
theorem dX12_down_30 : decode cX12_down 30 = .ok (.invokevirtual 402, 3) := by decide +kernel
theorem dX12_down_33 : decode cX12_down 33 = .ok (.ireturn, 1) := by decide +kernel
theorem dX12_start_0 : decode cX12_start 0 = .ok (.aload_n 0, 1) := by decide +kernel
theorem dX12_start_1 : decode cX12_start 1 = .ok (.aload_n 0, 1) := by decide +kernel
theorem dX12_start_2 : decode cX12_start 2 = .ok (.iload_n 1, 1) := by decide +kernel
theorem dX12_start_3 : decode cX12_start 3 = .ok (.invokevirtual 789, 3) := by decide +kernel
theorem dX12_start_6 : decode cX12_start 6 = .ok (.ifCond .ne 7, 3) := by decide +kernel
theorem dX12_start_9 : decode cX12_start 9 = .ok (.iconst 1, 1) := by decide +kernel
theorem dX12_start_10 : decode cX12_start 10 = .ok (.goto 17, 3) := by decide +kernel
theorem dX12_start_13 : decode cX12_start 13 = .ok (.aload_n 0, 1) := by decide +kernel
theorem dX12_start_14 : decode cX12_start 14 = .ok (.getfield 77, 3) := by decide +kernel
theorem dX12_start_17 : decode cX12_start 17 = .ok (.iload_n 1, 1) := by decide +kernel
theorem dX12_start_18 : decode cX12_start 18 = .ok (.baload, 1) := by decide +kernel
theorem dX12_start_19 : decode cX12_start 19 = .ok (.ifCond .eq 7, 3) := by decide +kernel
theorem dX12_start_22 : decode cX12_start 22 = .ok (.iconst 2, 1) := by decide +kernel
theorem dX12_start_23 : decode cX12_start 23 = .ok (.goto 4, 3) := by decide +kernel
theorem dX12_start_26 : decode cX12_start 26 = .ok (.iconst 0, 1) := by decide +kernel
theorem dX12_start_27 : decode cX12_start 27 = .ok (.putfield 317, 3) := by decide +kernel
theorem dX12_start_30 : decode cX12_start 30 = .ok (.aload_n 0, 1) := by decide +kernel
theorem dX12_start_31 : decode cX12_start 31 = .ok (.getfield 317, 3) := by decide +kernel
theorem dX12_start_34 : decode cX12_start 34 = .ok (.ifCond .ne 15, 3) := by decide +kernel
theorem dX12_start_37 : decode cX12_start 37 = .ok (.aload_n 0, 1) := by decide +kernel
theorem dX12_start_38 : decode cX12_start 38 = .ok (.iload_n 1, 1) := by decide +kernel
theorem dX12_start_39 : decode cX12_start 39 = .ok (.invokevirtual 798, 3) := by decide +kernel
theorem dX12_start_42 : decode cX12_start 42 = .ok (.ifCond .eq 7, 3) := by decide +kernel
theorem dX12_start_45 : decode cX12_start 45 = .ok (.iconst 1, 1) := by decide +kernel
theorem dX12_start_46 : decode cX12_start 46 = .ok (.goto 4, 3) := by decide +kernel
theorem dX12_start_49 : decode cX12_start 49 = .ok (.iconst 0, 1) := by decide +kernel
theorem dX12_start_50 : decode cX12_start 50 = .ok (.ireturn, 1) := by decide +kernel
theorem dX12_fail_0 : decode cX12_fail 0 = .ok (.aload_n 0, 1) := by decide +kernel
theorem dX12_fail_1 : decode cX12_fail 1 = .ok (.aload_n 0, 1) := by decide +kernel
theorem dX12_fail_2 : decode cX12_fail 2 = .ok (.iload_n 1, 1) := by decide +kernel
theorem dX12_fail_3 : decode cX12_fail 3 = .ok (.invokevirtual 789, 3) := by decide +kernel
theorem dX12_fail_6 : decode cX12_fail 6 = .ok (.ifCond .ne 7, 3) := by decide +kernel
theorem dX12_fail_9 : decode cX12_fail 9 = .ok (.iconst 1, 1) := by decide +kernel
theorem dX12_fail_10 : decode cX12_fail 10 = .ok (.goto 29, 3) := by decide +kernel
theorem dX12_fail_13 : decode cX12_fail 13 = .ok (.iload_n 2, 1) := by decide +kernel
theorem dX12_fail_14 : decode cX12_fail 14 = .ok (.ifCond .lt 20, 3) := by decide +kernel
theorem dX12_fail_17 : decode cX12_fail 17 = .ok (.iload_n 2, 1) := by decide +kernel
theorem dX12_fail_18 : decode cX12_fail 18 = .ok (.sipush 1000, 3) := by decide +kernel
theorem dX12_fail_21 : decode cX12_fail 21 = .ok (.if_icmp .gt 13, 3) := by decide +kernel
theorem dX12_fail_24 : decode cX12_fail 24 = .ok (.iload_n 3, 1) := by decide +kernel
theorem dX12_fail_25 : decode cX12_fail 25 = .ok (.ifCond .lt 9, 3) := by decide +kernel
theorem dX12_fail_28 : decode cX12_fail 28 = .ok (.iload_n 3, 1) := by decide +kernel
theorem dX12_fail_29 : decode cX12_fail 29 = .ok (.bipush 63, 2) := by decide +kernel
theorem dX12_fail_31 : decode cX12_fail 31 = .ok (.if_icmp .le 7, 3) := by decide +kernel
theorem dX12_fail_34 : decode cX12_fail 34 = .ok (.iconst 2, 1) := by decide +kernel
theorem dX12_fail_35 : decode cX12_fail 35 = .ok (.goto 4, 3) := by decide +kernel
theorem dX12_fail_38 : decode cX12_fail 38 = .ok (.iconst 0, 1) := by decide +kernel
theorem dX12_fail_39 : decode cX12_fail 39 = .ok (.putfield 317, 3) := by decide +kernel
theorem dX12_fail_42 : decode cX12_fail 42 = .ok (.aload_n 0, 1) := by decide +kernel
theorem dX12_fail_43 : decode cX12_fail 43 = .ok (.getfield 317, 3) := by decide +kernel
theorem dX12_fail_46 : decode cX12_fail 46 = .ok (.ifCond .ne 17, 3) := by decide +kernel
theorem dX12_fail_49 : decode cX12_fail 49 = .ok (.aload_n 0, 1) := by decide +kernel
theorem dX12_fail_50 : decode cX12_fail 50 = .ok (.getfield 80, 3) := by decide +kernel
theorem dX12_fail_53 : decode cX12_fail 53 = .ok (.iload_n 1, 1) := by decide +kernel
theorem dX12_fail_54 : decode cX12_fail 54 = .ok (.iload_n 2, 1) := by decide +kernel
theorem dX12_fail_55 : decode cX12_fail 55 = .ok (.iastore, 1) := by decide +kernel
theorem dX12_fail_56 : decode cX12_fail 56 = .ok (.aload_n 0, 1) := by decide +kernel
theorem dX12_fail_57 : decode cX12_fail 57 = .ok (.getfield 83, 3) := by decide +kernel
theorem dX12_fail_60 : decode cX12_fail 60 = .ok (.iload_n 1, 1) := by decide +kernel
theorem dX12_fail_61 : decode cX12_fail 61 = .ok (.iload_n 3, 1) := by decide +kernel
theorem dX12_fail_62 : decode cX12_fail 62 = .ok (.iastore, 1) := by decide +kernel
theorem dX12_fail_63 : decode cX12_fail 63 = .ok (.return_, 1) := by decide +kernel
theorem dX12_isCopy_0 : decode cX12_isCopy 0 = .ok (.aload_n 0, 1) := by decide +kernel
theorem dX12_isCopy_1 : decode cX12_isCopy 1 = .ok (.iload_n 1, 1) := by decide +kernel
theorem dX12_isCopy_2 : decode cX12_isCopy 2 = .ok (.invokevirtual 777, 3) := by decide +kernel
theorem dX12_isCopy_5 : decode cX12_isCopy 5 = .ok (.ifCond .eq 28, 3) := by decide +kernel
theorem dX12_isCopy_8 : decode cX12_isCopy 8 = .ok (.iload_n 2, 1) := by decide +kernel
theorem dX12_isCopy_9 : decode cX12_isCopy 9 = .ok (.ifCond .lt 24, 3) := by decide +kernel
theorem dX12_isCopy_12 : decode cX12_isCopy 12 = .ok (.iload_n 2, 1) := by decide +kernel
theorem dX12_isCopy_13 : decode cX12_isCopy 13 = .ok (.aload_n 0, 1) := by decide +kernel
theorem dX12_isCopy_14 : decode cX12_isCopy 14 = .ok (.getfield 327, 3) := by decide +kernel
theorem dX12_isCopy_17 : decode cX12_isCopy 17 = .ok (.if_icmp .ge 16, 3) := by decide +kernel
theorem dX12_isCopy_20 : decode cX12_isCopy 20 = .ok (.aload_n 0, 1) := by decide +kernel
theorem dX12_isCopy_21 : decode cX12_isCopy 21 = .ok (.iload_n 1, 1) := by decide +kernel
theorem dX12_isCopy_22 : decode cX12_isCopy 22 = .ok (.iload_n 2, 1) := by decide +kernel
theorem dX12_isCopy_23 : decode cX12_isCopy 23 = .ok (.invokevirtual 352, 3) := by decide +kernel
theorem dX12_isCopy_26 : decode cX12_isCopy 26 = .ok (.ifCond .eq 7, 3) := by decide +kernel
theorem dX12_isCopy_29 : decode cX12_isCopy 29 = .ok (.iconst 1, 1) := by decide +kernel
theorem dX12_isCopy_30 : decode cX12_isCopy 30 = .ok (.goto 4, 3) := by decide +kernel
theorem dX12_isCopy_33 : decode cX12_isCopy 33 = .ok (.iconst 0, 1) := by decide +kernel
theorem dX12_isCopy_34 : decode cX12_isCopy 34 = .ok (.ireturn, 1) := by decide +kernel
theorem dX12_copy_0 : decode cX12_copy 0 = .ok (.aload_n 0, 1) := by decide +kernel
theorem dX12_copy_1 : decode cX12_copy 1 = .ok (.aload_n 0, 1) := by decide +kernel
theorem dX12_copy_2 : decode cX12_copy 2 = .ok (.iload_n 1, 1) := by decide +kernel
theorem dX12_copy_3 : decode cX12_copy 3 = .ok (.iload_n 2, 1) := by decide +kernel
theorem dX12_copy_4 : decode cX12_copy 4 = .ok (.invokevirtual 801, 3) := by decide +kernel
theorem dX12_copy_7 : decode cX12_copy 7 = .ok (.ifCond .eq 17, 3) := by decide +kernel
theorem dX12_copy_10 : decode cX12_copy 10 = .ok (.iload_n 3, 1) := by decide +kernel
theorem dX12_copy_11 : decode cX12_copy 11 = .ok (.ifCond .lt 13, 3) := by decide +kernel
theorem dX12_copy_14 : decode cX12_copy 14 = .ok (.iload_n 3, 1) := by decide +kernel
theorem dX12_copy_15 : decode cX12_copy 15 = .ok (.bipush 8, 2) := by decide +kernel
theorem dX12_copy_17 : decode cX12_copy 17 = .ok (.if_icmp .gt 7, 3) := by decide +kernel
theorem dX12_copy_20 : decode cX12_copy 20 = .ok (.iconst 0, 1) := by decide +kernel
theorem dX12_copy_21 : decode cX12_copy 21 = .ok (.goto 4, 3) := by decide +kernel
theorem dX12_copy_24 : decode cX12_copy 24 = .ok (.iconst 1, 1) := by decide +kernel
theorem dX12_copy_25 : decode cX12_copy 25 = .ok (.putfield 317, 3) := by decide +kernel
theorem dX12_copy_28 : decode cX12_copy 28 = .ok (.aload_n 0, 1) := by decide +kernel
theorem dX12_copy_29 : decode cX12_copy 29 = .ok (.getfield 317, 3) := by decide +kernel
theorem dX12_copy_32 : decode cX12_copy 32 = .ok (.ifCond .gt 12, 3) := by decide +kernel
theorem dX12_copy_35 : decode cX12_copy 35 = .ok (.aload_n 0, 1) := by decide +kernel
theorem dX12_copy_36 : decode cX12_copy 36 = .ok (.getfield 77, 3) := by decide +kernel
theorem dX12_copy_39 : decode cX12_copy 39 = .ok (.iload_n 1, 1) := by decide +kernel
theorem dX12_copy_40 : decode cX12_copy 40 = .ok (.baload, 1) := by decide +kernel
theorem dX12_copy_41 : decode cX12_copy 41 = .ok (.ifCond .ne 16, 3) := by decide +kernel
theorem dX12_copy_44 : decode cX12_copy 44 = .ok (.aload_n 0, 1) := by decide +kernel
theorem dX12_copy_45 : decode cX12_copy 45 = .ok (.getfield 317, 3) := by decide +kernel
theorem dX12_copy_48 : decode cX12_copy 48 = .ok (.ifCond .le 7, 3) := by decide +kernel
theorem dX12_copy_51 : decode cX12_copy 51 = .ok (.iconst 0, 1) := by decide +kernel
theorem dX12_copy_52 : decode cX12_copy 52 = .ok (.goto 4, 3) := by decide +kernel
theorem dX12_copy_55 : decode cX12_copy 55 = .ok (.iconst (-1), 1) := by decide +kernel
theorem dX12_copy_56 : decode cX12_copy 56 = .ok (.ireturn, 1) := by decide +kernel
theorem dX12_copy_57 : decode cX12_copy 57 = .ok (.aload_n 0, 1) := by decide +kernel
theorem dX12_copy_58 : decode cX12_copy 58 = .ok (.iload_n 1, 1) := by decide +kernel
theorem dX12_copy_59 : decode cX12_copy 59 = .ok (.iload_n 2, 1) := by decide +kernel
theorem dX12_copy_60 : decode cX12_copy 60 = .ok (.invokevirtual 364, 3) := by decide +kernel
theorem dX12_copy_63 : decode cX12_copy 63 = .ok (.istore 4, 2) := by decide +kernel
theorem dX12_copy_65 : decode cX12_copy 65 = .ok (.iload_n 3, 1) := by decide +kernel
theorem dX12_copy_66 : decode cX12_copy 66 = .ok (.tableswitch 110 0 7 #[46, 54, 62, 70, 78, 86, 94, 102], 46) := by decide +kernel
theorem dX12_copy_112 : decode cX12_copy 112 = .ok (.aload_n 0, 1) := by decide +kernel
theorem dX12_copy_113 : decode cX12_copy 113 = .ok (.getfield 125, 3) := by decide +kernel
theorem dX12_copy_116 : decode cX12_copy 116 = .ok (.iload 4, 2) := by decide +kernel
theorem dX12_copy_118 : decode cX12_copy 118 = .ok (.iaload, 1) := by decide +kernel
theorem dX12_copy_119 : decode cX12_copy 119 = .ok (.ireturn, 1) := by decide +kernel
theorem dX12_copy_120 : decode cX12_copy 120 = .ok (.aload_n 0, 1) := by decide +kernel
theorem dX12_copy_121 : decode cX12_copy 121 = .ok (.getfield 128, 3) := by decide +kernel
theorem dX12_copy_124 : decode cX12_copy 124 = .ok (.iload 4, 2) := by decide +kernel
theorem dX12_copy_126 : decode cX12_copy 126 = .ok (.iaload, 1) := by decide +kernel
theorem dX12_copy_127 : decode cX12_copy 127 = .ok (.ireturn, 1) := by decide +kernel
theorem dX12_copy_128 : decode cX12_copy 128 = .ok (.aload_n 0, 1) := by decide +kernel
theorem dX12_copy_129 : decode cX12_copy 129 = .ok (.getfield 131, 3) := by decide +kernel
theorem dX12_copy_132 : decode cX12_copy 132 = .ok (.iload 4, 2) := by decide +kernel
theorem dX12_copy_134 : decode cX12_copy 134 = .ok (.iaload, 1) := by decide +kernel
theorem dX12_copy_135 : decode cX12_copy 135 = .ok (.ireturn, 1) := by decide +kernel
theorem dX12_copy_136 : decode cX12_copy 136 = .ok (.aload_n 0, 1) := by decide +kernel
theorem dX12_copy_137 : decode cX12_copy 137 = .ok (.getfield 134, 3) := by decide +kernel
theorem dX12_copy_140 : decode cX12_copy 140 = .ok (.iload 4, 2) := by decide +kernel
theorem dX12_copy_142 : decode cX12_copy 142 = .ok (.iaload, 1) := by decide +kernel
theorem dX12_copy_143 : decode cX12_copy 143 = .ok (.ireturn, 1) := by decide +kernel
theorem dX12_copy_144 : decode cX12_copy 144 = .ok (.aload_n 0, 1) := by decide +kernel
theorem dX12_copy_145 : decode cX12_copy 145 = .ok (.getfield 137, 3) := by decide +kernel
theorem dX12_copy_148 : decode cX12_copy 148 = .ok (.iload 4, 2) := by decide +kernel
theorem dX12_copy_150 : decode cX12_copy 150 = .ok (.iaload, 1) := by decide +kernel
theorem dX12_copy_151 : decode cX12_copy 151 = .ok (.ireturn, 1) := by decide +kernel
theorem dX12_copy_152 : decode cX12_copy 152 = .ok (.aload_n 0, 1) := by decide +kernel
theorem dX12_copy_153 : decode cX12_copy 153 = .ok (.getfield 140, 3) := by decide +kernel
theorem dX12_copy_156 : decode cX12_copy 156 = .ok (.iload 4, 2) := by decide +kernel
theorem dX12_copy_158 : decode cX12_copy 158 = .ok (.iaload, 1) := by decide +kernel
theorem dX12_copy_159 : decode cX12_copy 159 = .ok (.ireturn, 1) := by decide +kernel
theorem dX12_copy_160 : decode cX12_copy 160 = .ok (.aload_n 0, 1) := by decide +kernel
theorem dX12_copy_161 : decode cX12_copy 161 = .ok (.getfield 194, 3) := by decide +kernel
theorem dX12_copy_164 : decode cX12_copy 164 = .ok (.iload 4, 2) := by decide +kernel
theorem dX12_copy_166 : decode cX12_copy 166 = .ok (.iaload, 1) := by decide +kernel
theorem dX12_copy_167 : decode cX12_copy 167 = .ok (.ireturn, 1) := by decide +kernel
theorem dX12_copy_168 : decode cX12_copy 168 = .ok (.aload_n 0, 1) := by decide +kernel
theorem dX12_copy_169 : decode cX12_copy 169 = .ok (.getfield 94, 3) := by decide +kernel
theorem dX12_copy_172 : decode cX12_copy 172 = .ok (.iload 4, 2) := by decide +kernel
theorem dX12_copy_174 : decode cX12_copy 174 = .ok (.iaload, 1) := by decide +kernel
theorem dX12_copy_175 : decode cX12_copy 175 = .ok (.ireturn, 1) := by decide +kernel
theorem dX12_copy_176 : decode cX12_copy 176 = .ok (.iconst 0, 1) := by decide +kernel
theorem dX12_copy_177 : decode cX12_copy 177 = .ok (.istore 5, 2) := by decide +kernel
theorem dX12_copy_179 : decode cX12_copy 179 = .ok (.iload_n 2, 1) := by decide +kernel
theorem dX12_copy_180 : decode cX12_copy 180 = .ok (.istore 6, 2) := by decide +kernel
theorem dX12_copy_182 : decode cX12_copy 182 = .ok (.iload 6, 2) := by decide +kernel
theorem dX12_copy_184 : decode cX12_copy 184 = .ok (.bipush 100, 2) := by decide +kernel
theorem dX12_copy_186 : decode cX12_copy 186 = .ok (.if_icmp .ge 48, 3) := by decide +kernel
theorem dX12_copy_189 : decode cX12_copy 189 = .ok (.iload 5, 2) := by decide +kernel
theorem dX12_copy_191 : decode cX12_copy 191 = .ok (.aload_n 0, 1) := by decide +kernel
theorem dX12_copy_192 : decode cX12_copy 192 = .ok (.aload_n 0, 1) := by decide +kernel
theorem dX12_copy_193 : decode cX12_copy 193 = .ok (.iload 4, 2) := by decide +kernel
theorem dX12_copy_195 : decode cX12_copy 195 = .ok (.aload_n 0, 1) := by decide +kernel
theorem dX12_copy_196 : decode cX12_copy 196 = .ok (.getfield 131, 3) := by decide +kernel
theorem dX12_copy_199 : decode cX12_copy 199 = .ok (.iload 4, 2) := by decide +kernel
theorem dX12_copy_201 : decode cX12_copy 201 = .ok (.iaload, 1) := by decide +kernel
theorem dX12_copy_202 : decode cX12_copy 202 = .ok (.invokevirtual 389, 3) := by decide +kernel
theorem dX12_copy_205 : decode cX12_copy 205 = .ok (.iload 6, 2) := by decide +kernel
theorem dX12_copy_207 : decode cX12_copy 207 = .ok (.invokevirtual 392, 3) := by decide +kernel
theorem dX12_copy_210 : decode cX12_copy 210 = .ok (.iconst (-1), 1) := by decide +kernel
theorem dX12_copy_211 : decode cX12_copy 211 = .ok (.if_icmp .eq 7, 3) := by decide +kernel
theorem dX12_copy_214 : decode cX12_copy 214 = .ok (.iconst 1, 1) := by decide +kernel
theorem dX12_copy_215 : decode cX12_copy 215 = .ok (.goto 4, 3) := by decide +kernel
theorem dX12_copy_218 : decode cX12_copy 218 = .ok (.iconst 0, 1) := by decide +kernel
theorem dX12_copy_219 : decode cX12_copy 219 = .ok (.iadd, 1) := by decide +kernel
theorem dX12_copy_220 : decode cX12_copy 220 = .ok (.istore 5, 2) := by decide +kernel
theorem dX12_copy_222 : decode cX12_copy 222 = .ok (.iload 6, 2) := by decide +kernel
theorem dX12_copy_224 : decode cX12_copy 224 = .ok (.aload_n 0, 1) := by decide +kernel
theorem dX12_copy_225 : decode cX12_copy 225 = .ok (.getfield 327, 3) := by decide +kernel
theorem dX12_copy_228 : decode cX12_copy 228 = .ok (.iadd, 1) := by decide +kernel
theorem dX12_copy_229 : decode cX12_copy 229 = .ok (.istore 6, 2) := by decide +kernel
theorem dX12_copy_231 : decode cX12_copy 231 = .ok (.goto (-49), 3) := by decide +kernel
theorem dX12_copy_234 : decode cX12_copy 234 = .ok (.iload 5, 2) := by decide +kernel
theorem dX12_copy_236 : decode cX12_copy 236 = .ok (.ireturn, 1) := by decide +kernel
theorem dX12_other_0 : decode cX12_other 0 = .ok (.aload_n 0, 1) := by decide +kernel
theorem dX12_other_1 : decode cX12_other 1 = .ok (.aload_n 0, 1) := by decide +kernel
theorem dX12_other_2 : decode cX12_other 2 = .ok (.iload_n 1, 1) := by decide +kernel
theorem dX12_other_3 : decode cX12_other 3 = .ok (.iload_n 2, 1) := by decide +kernel
theorem dX12_other_4 : decode cX12_other 4 = .ok (.invokevirtual 801, 3) := by decide +kernel
theorem dX12_other_7 : decode cX12_other 7 = .ok (.ifCond .eq 32, 3) := by decide +kernel
theorem dX12_other_10 : decode cX12_other 10 = .ok (.aload_n 0, 1) := by decide +kernel
theorem dX12_other_11 : decode cX12_other 11 = .ok (.iload_n 3, 1) := by decide +kernel
theorem dX12_other_12 : decode cX12_other 12 = .ok (.iload_n 2, 1) := by decide +kernel
theorem dX12_other_13 : decode cX12_other 13 = .ok (.invokevirtual 801, 3) := by decide +kernel
theorem dX12_other_16 : decode cX12_other 16 = .ok (.ifCond .eq 23, 3) := by decide +kernel
theorem dX12_other_19 : decode cX12_other 19 = .ok (.iload_n 3, 1) := by decide +kernel
theorem dX12_other_20 : decode cX12_other 20 = .ok (.iload_n 1, 1) := by decide +kernel
theorem dX12_other_21 : decode cX12_other 21 = .ok (.if_icmp .eq 18, 3) := by decide +kernel
theorem dX12_other_24 : decode cX12_other 24 = .ok (.iload 4, 2) := by decide +kernel
theorem dX12_other_26 : decode cX12_other 26 = .ok (.ifCond .lt 13, 3) := by decide +kernel
theorem dX12_other_29 : decode cX12_other 29 = .ok (.iload 4, 2) := by decide +kernel
theorem dX12_other_31 : decode cX12_other 31 = .ok (.iconst 3, 1) := by decide +kernel
theorem dX12_other_32 : decode cX12_other 32 = .ok (.if_icmp .gt 7, 3) := by decide +kernel
theorem dX12_other_35 : decode cX12_other 35 = .ok (.iconst 0, 1) := by decide +kernel
theorem dX12_other_36 : decode cX12_other 36 = .ok (.goto 4, 3) := by decide +kernel
theorem dX12_other_39 : decode cX12_other 39 = .ok (.iconst 1, 1) := by decide +kernel
theorem dX12_other_40 : decode cX12_other 40 = .ok (.putfield 317, 3) := by decide +kernel
theorem dX12_other_43 : decode cX12_other 43 = .ok (.aload_n 0, 1) := by decide +kernel
theorem dX12_other_44 : decode cX12_other 44 = .ok (.getfield 317, 3) := by decide +kernel
theorem dX12_other_47 : decode cX12_other 47 = .ok (.ifCond .le 5, 3) := by decide +kernel
theorem dX12_other_50 : decode cX12_other 50 = .ok (.iconst 0, 1) := by decide +kernel
theorem dX12_other_51 : decode cX12_other 51 = .ok (.ireturn, 1) := by decide +kernel
theorem dX12_other_52 : decode cX12_other 52 = .ok (.aload_n 0, 1) := by decide +kernel
theorem dX12_other_53 : decode cX12_other 53 = .ok (.iload_n 1, 1) := by decide +kernel
theorem dX12_other_54 : decode cX12_other 54 = .ok (.iload_n 2, 1) := by decide +kernel
theorem dX12_other_55 : decode cX12_other 55 = .ok (.invokevirtual 364, 3) := by decide +kernel
theorem dX12_other_58 : decode cX12_other 58 = .ok (.istore 5, 2) := by decide +kernel
theorem dX12_other_60 : decode cX12_other 60 = .ok (.aload_n 0, 1) := by decide +kernel
theorem dX12_other_61 : decode cX12_other 61 = .ok (.getfield 77, 3) := by decide +kernel
theorem dX12_other_64 : decode cX12_other 64 = .ok (.iload_n 1, 1) := by decide +kernel
theorem dX12_other_65 : decode cX12_other 65 = .ok (.baload, 1) := by decide +kernel
theorem dX12_other_66 : decode cX12_other 66 = .ok (.ifCond .eq 14, 3) := by decide +kernel
theorem dX12_other_69 : decode cX12_other 69 = .ok (.aload_n 0, 1) := by decide +kernel
theorem dX12_other_70 : decode cX12_other 70 = .ok (.getfield 140, 3) := by decide +kernel
theorem dX12_other_73 : decode cX12_other 73 = .ok (.iload 5, 2) := by decide +kernel
theorem dX12_other_75 : decode cX12_other 75 = .ok (.iaload, 1) := by decide +kernel
theorem dX12_other_76 : decode cX12_other 76 = .ok (.iconst 2, 1) := by decide +kernel
theorem dX12_other_77 : decode cX12_other 77 = .ok (.if_icmp .eq 5, 3) := by decide +kernel
theorem dX12_other_80 : decode cX12_other 80 = .ok (.iconst (-1), 1) := by decide +kernel
theorem dX12_other_81 : decode cX12_other 81 = .ok (.ireturn, 1) := by decide +kernel
theorem dX12_other_82 : decode cX12_other 82 = .ok (.iconst 5, 1) := by decide +kernel
theorem dX12_other_83 : decode cX12_other 83 = .ok (.iload 5, 2) := by decide +kernel
theorem dX12_other_85 : decode cX12_other 85 = .ok (.imul, 1) := by decide +kernel
theorem dX12_other_86 : decode cX12_other 86 = .ok (.iload_n 3, 1) := by decide +kernel
theorem dX12_other_87 : decode cX12_other 87 = .ok (.iadd, 1) := by decide +kernel
theorem dX12_other_88 : decode cX12_other 88 = .ok (.istore 6, 2) := by decide +kernel
theorem dX12_other_90 : decode cX12_other 90 = .ok (.iload 4, 2) := by decide +kernel
theorem dX12_other_92 : decode cX12_other 92 = .ok (.ifCond .ne 13, 3) := by decide +kernel
theorem dX12_other_95 : decode cX12_other 95 = .ok (.aload_n 0, 1) := by decide +kernel
theorem dX12_other_96 : decode cX12_other 96 = .ok (.getfield 158, 3) := by decide +kernel
theorem dX12_other_99 : decode cX12_other 99 = .ok (.iload 6, 2) := by decide +kernel
theorem dX12_other_101 : decode cX12_other 101 = .ok (.iaload, 1) := by decide +kernel
theorem dX12_other_102 : decode cX12_other 102 = .ok (.goto 42, 3) := by decide +kernel
theorem dX12_other_105 : decode cX12_other 105 = .ok (.iload 4, 2) := by decide +kernel
theorem dX12_other_107 : decode cX12_other 107 = .ok (.iconst 1, 1) := by decide +kernel
theorem dX12_other_108 : decode cX12_other 108 = .ok (.if_icmp .ne 13, 3) := by decide +kernel
theorem dX12_other_111 : decode cX12_other 111 = .ok (.aload_n 0, 1) := by decide +kernel
theorem dX12_other_112 : decode cX12_other 112 = .ok (.getfield 161, 3) := by decide +kernel
theorem dX12_other_115 : decode cX12_other 115 = .ok (.iload 6, 2) := by decide +kernel
theorem dX12_other_117 : decode cX12_other 117 = .ok (.iaload, 1) := by decide +kernel
theorem dX12_other_118 : decode cX12_other 118 = .ok (.goto 26, 3) := by decide +kernel
theorem dX12_other_121 : decode cX12_other 121 = .ok (.iload 4, 2) := by decide +kernel
theorem dX12_other_123 : decode cX12_other 123 = .ok (.iconst 2, 1) := by decide +kernel
theorem dX12_other_124 : decode cX12_other 124 = .ok (.if_icmp .ne 13, 3) := by decide +kernel
theorem dX12_other_127 : decode cX12_other 127 = .ok (.aload_n 0, 1) := by decide +kernel
theorem dX12_other_128 : decode cX12_other 128 = .ok (.getfield 164, 3) := by decide +kernel
theorem dX12_other_131 : decode cX12_other 131 = .ok (.iload 6, 2) := by decide +kernel
theorem dX12_other_133 : decode cX12_other 133 = .ok (.iaload, 1) := by decide +kernel
theorem dX12_other_134 : decode cX12_other 134 = .ok (.goto 10, 3) := by decide +kernel
theorem dX12_other_137 : decode cX12_other 137 = .ok (.aload_n 0, 1) := by decide +kernel
theorem dX12_other_138 : decode cX12_other 138 = .ok (.getfield 173, 3) := by decide +kernel
theorem dX12_other_141 : decode cX12_other 141 = .ok (.iload 6, 2) := by decide +kernel
theorem dX12_other_143 : decode cX12_other 143 = .ok (.iaload, 1) := by decide +kernel
theorem dX12_other_144 : decode cX12_other 144 = .ok (.ireturn, 1) := by decide +kernel
theorem dX12_view_0 : decode cX12_view 0 = .ok (.aload_n 0, 1) := by decide +kernel
theorem dX12_view_1 : decode cX12_view 1 = .ok (.iload_n 1, 1) := by decide +kernel
theorem dX12_view_2 : decode cX12_view 2 = .ok (.invokevirtual 789, 3) := by decide +kernel
theorem dX12_view_5 : decode cX12_view 5 = .ok (.ifCond .eq 45, 3) := by decide +kernel
theorem dX12_view_8 : decode cX12_view 8 = .ok (.iload_n 2, 1) := by decide +kernel
theorem dX12_view_9 : decode cX12_view 9 = .ok (.ifCond .lt 41, 3) := by decide +kernel
theorem dX12_view_12 : decode cX12_view 12 = .ok (.iload_n 2, 1) := by decide +kernel
theorem dX12_view_13 : decode cX12_view 13 = .ok (.aload_n 0, 1) := by decide +kernel
theorem dX12_view_14 : decode cX12_view 14 = .ok (.getfield 327, 3) := by decide +kernel
theorem dX12_view_17 : decode cX12_view 17 = .ok (.if_icmp .ge 33, 3) := by decide +kernel
theorem dX12_view_20 : decode cX12_view 20 = .ok (.iload_n 3, 1) := by decide +kernel
theorem dX12_view_21 : decode cX12_view 21 = .ok (.ifCond .lt 29, 3) := by decide +kernel
theorem dX12_view_24 : decode cX12_view 24 = .ok (.iload_n 3, 1) := by decide +kernel
theorem dX12_view_25 : decode cX12_view 25 = .ok (.iconst 3, 1) := by decide +kernel
theorem dX12_view_26 : decode cX12_view 26 = .ok (.if_icmp .gt 24, 3) := by decide +kernel
theorem dX12_view_29 : decode cX12_view 29 = .ok (.iload_n 1, 1) := by decide +kernel
theorem dX12_view_30 : decode cX12_view 30 = .ok (.aload_n 0, 1) := by decide +kernel
theorem dX12_view_31 : decode cX12_view 31 = .ok (.getfield 321, 3) := by decide +kernel
theorem dX12_view_34 : decode cX12_view 34 = .ok (.if_icmp .eq 12, 3) := by decide +kernel
theorem dX12_view_37 : decode cX12_view 37 = .ok (.aload_n 0, 1) := by decide +kernel
theorem dX12_view_38 : decode cX12_view 38 = .ok (.iload_n 1, 1) := by decide +kernel
theorem dX12_view_39 : decode cX12_view 39 = .ok (.iload_n 2, 1) := by decide +kernel
theorem dX12_view_40 : decode cX12_view 40 = .ok (.invokevirtual 352, 3) := by decide +kernel
theorem dX12_view_43 : decode cX12_view 43 = .ok (.ifCond .eq 7, 3) := by decide +kernel
theorem dX12_view_46 : decode cX12_view 46 = .ok (.iconst 1, 1) := by decide +kernel
theorem dX12_view_47 : decode cX12_view 47 = .ok (.goto 4, 3) := by decide +kernel
theorem dX12_view_50 : decode cX12_view 50 = .ok (.iconst 0, 1) := by decide +kernel
theorem dX12_view_51 : decode cX12_view 51 = .ok (.istore 4, 2) := by decide +kernel
theorem dX12_view_53 : decode cX12_view 53 = .ok (.aload_n 0, 1) := by decide +kernel
theorem dX12_view_54 : decode cX12_view 54 = .ok (.iload 4, 2) := by decide +kernel
theorem dX12_view_56 : decode cX12_view 56 = .ok (.ifCond .eq 7, 3) := by decide +kernel
theorem dX12_view_59 : decode cX12_view 59 = .ok (.iconst 0, 1) := by decide +kernel
theorem dX12_view_60 : decode cX12_view 60 = .ok (.goto 4, 3) := by decide +kernel
theorem dX12_view_63 : decode cX12_view 63 = .ok (.iconst 1, 1) := by decide +kernel
theorem dX12_view_64 : decode cX12_view 64 = .ok (.putfield 317, 3) := by decide +kernel
theorem dX12_view_67 : decode cX12_view 67 = .ok (.iload 4, 2) := by decide +kernel
theorem dX12_view_69 : decode cX12_view 69 = .ok (.ifCond .ne 5, 3) := by decide +kernel
theorem dX12_view_72 : decode cX12_view 72 = .ok (.iconst 0, 1) := by decide +kernel
theorem dX12_view_73 : decode cX12_view 73 = .ok (.ireturn, 1) := by decide +kernel
theorem dX12_view_74 : decode cX12_view 74 = .ok (.aload_n 0, 1) := by decide +kernel
theorem dX12_view_75 : decode cX12_view 75 = .ok (.getfield 77, 3) := by decide +kernel
theorem dX12_view_78 : decode cX12_view 78 = .ok (.iload_n 1, 1) := by decide +kernel
theorem dX12_view_79 : decode cX12_view 79 = .ok (.baload, 1) := by decide +kernel
theorem dX12_view_80 : decode cX12_view 80 = .ok (.ifCond .ne 5, 3) := by decide +kernel
theorem dX12_view_83 : decode cX12_view 83 = .ok (.iconst (-1), 1) := by decide +kernel
theorem dX12_view_84 : decode cX12_view 84 = .ok (.ireturn, 1) := by decide +kernel
theorem dX12_view_85 : decode cX12_view 85 = .ok (.iload_n 1, 1) := by decide +kernel
theorem dX12_view_86 : decode cX12_view 86 = .ok (.aload_n 0, 1) := by decide +kernel
theorem dX12_view_87 : decode cX12_view 87 = .ok (.getfield 321, 3) := by decide +kernel
theorem dX12_view_90 : decode cX12_view 90 = .ok (.if_icmp .ne 10, 3) := by decide +kernel
theorem dX12_view_93 : decode cX12_view 93 = .ok (.bipush 20, 2) := by decide +kernel
theorem dX12_view_95 : decode cX12_view 95 = .ok (.iload_n 2, 1) := by decide +kernel
theorem dX12_view_96 : decode cX12_view 96 = .ok (.iadd, 1) := by decide +kernel
theorem dX12_view_97 : decode cX12_view 97 = .ok (.goto 9, 3) := by decide +kernel
theorem dX12_view_100 : decode cX12_view 100 = .ok (.aload_n 0, 1) := by decide +kernel
theorem dX12_view_101 : decode cX12_view 101 = .ok (.iload_n 1, 1) := by decide +kernel
theorem dX12_view_102 : decode cX12_view 102 = .ok (.iload_n 2, 1) := by decide +kernel
theorem dX12_view_103 : decode cX12_view 103 = .ok (.invokevirtual 364, 3) := by decide +kernel
theorem dX12_view_106 : decode cX12_view 106 = .ok (.istore 5, 2) := by decide +kernel
theorem dX12_view_108 : decode cX12_view 108 = .ok (.iload_n 3, 1) := by decide +kernel
theorem dX12_view_109 : decode cX12_view 109 = .ok (.ifCond .ne 13, 3) := by decide +kernel
theorem dX12_view_112 : decode cX12_view 112 = .ok (.aload_n 0, 1) := by decide +kernel
theorem dX12_view_113 : decode cX12_view 113 = .ok (.getfield 176, 3) := by decide +kernel
theorem dX12_view_116 : decode cX12_view 116 = .ok (.iload 5, 2) := by decide +kernel
theorem dX12_view_118 : decode cX12_view 118 = .ok (.iaload, 1) := by decide +kernel
theorem dX12_view_119 : decode cX12_view 119 = .ok (.goto 40, 3) := by decide +kernel
theorem dX12_view_122 : decode cX12_view 122 = .ok (.iload_n 3, 1) := by decide +kernel
theorem dX12_view_123 : decode cX12_view 123 = .ok (.iconst 1, 1) := by decide +kernel
theorem dX12_view_124 : decode cX12_view 124 = .ok (.if_icmp .ne 13, 3) := by decide +kernel
theorem dX12_view_127 : decode cX12_view 127 = .ok (.aload_n 0, 1) := by decide +kernel
theorem dX12_view_128 : decode cX12_view 128 = .ok (.getfield 179, 3) := by decide +kernel
theorem dX12_view_131 : decode cX12_view 131 = .ok (.iload 5, 2) := by decide +kernel
theorem dX12_view_133 : decode cX12_view 133 = .ok (.iaload, 1) := by decide +kernel
theorem dX12_view_134 : decode cX12_view 134 = .ok (.goto 25, 3) := by decide +kernel
theorem dX12_view_137 : decode cX12_view 137 = .ok (.iload_n 3, 1) := by decide +kernel
theorem dX12_view_138 : decode cX12_view 138 = .ok (.iconst 2, 1) := by decide +kernel
theorem dX12_view_139 : decode cX12_view 139 = .ok (.if_icmp .ne 13, 3) := by decide +kernel
theorem dX12_view_142 : decode cX12_view 142 = .ok (.aload_n 0, 1) := by decide +kernel
theorem dX12_view_143 : decode cX12_view 143 = .ok (.getfield 182, 3) := by decide +kernel
theorem dX12_view_146 : decode cX12_view 146 = .ok (.iload 5, 2) := by decide +kernel
theorem dX12_view_148 : decode cX12_view 148 = .ok (.iaload, 1) := by decide +kernel
theorem dX12_view_149 : decode cX12_view 149 = .ok (.goto 10, 3) := by decide +kernel
theorem dX12_view_152 : decode cX12_view 152 = .ok (.aload_n 0, 1) := by decide +kernel
theorem dX12_view_153 : decode cX12_view 153 = .ok (.getfield 185, 3) := by decide +kernel
theorem dX12_view_156 : decode cX12_view 156 = .ok (.iload 5, 2) := by decide +kernel
theorem dX12_view_158 : decode cX12_view 158 = .ok (.iaload, 1) := by decide +kernel
theorem dX12_view_159 : decode cX12_view 159 = .ok (.ireturn, 1) := by decide +kernel
theorem dX12_document_0 : decode cX12_document 0 = .ok (.aload_n 0, 1) := by decide +kernel
theorem dX12_document_1 : decode cX12_document 1 = .ok (.iload_n 1, 1) := by decide +kernel
theorem dX12_document_2 : decode cX12_document 2 = .ok (.invokevirtual 777, 3) := by decide +kernel
theorem dX12_document_5 : decode cX12_document 5 = .ok (.ifCond .eq 40, 3) := by decide +kernel
theorem dX12_document_8 : decode cX12_document 8 = .ok (.iload_n 2, 1) := by decide +kernel
theorem dX12_document_9 : decode cX12_document 9 = .ok (.ifCond .lt 36, 3) := by decide +kernel
theorem dX12_document_12 : decode cX12_document 12 = .ok (.iload_n 2, 1) := by decide +kernel
theorem dX12_document_13 : decode cX12_document 13 = .ok (.bipush 99, 2) := by decide +kernel
theorem dX12_document_15 : decode cX12_document 15 = .ok (.if_icmp .gt 30, 3) := by decide +kernel
theorem dX12_document_18 : decode cX12_document 18 = .ok (.iload_n 3, 1) := by decide +kernel
theorem dX12_document_19 : decode cX12_document 19 = .ok (.ifCond .lt 26, 3) := by decide +kernel
theorem dX12_document_22 : decode cX12_document 22 = .ok (.iload_n 3, 1) := by decide +kernel
theorem dX12_document_23 : decode cX12_document 23 = .ok (.iconst 2, 1) := by decide +kernel
theorem dX12_document_24 : decode cX12_document 24 = .ok (.if_icmp .gt 21, 3) := by decide +kernel
theorem dX12_document_27 : decode cX12_document 27 = .ok (.aload_n 0, 1) := by decide +kernel
theorem dX12_document_28 : decode cX12_document 28 = .ok (.iload_n 1, 1) := by decide +kernel
theorem dX12_document_29 : decode cX12_document 29 = .ok (.iload_n 2, 1) := by decide +kernel
theorem dX12_document_30 : decode cX12_document 30 = .ok (.aload_n 0, 1) := by decide +kernel
theorem dX12_document_31 : decode cX12_document 31 = .ok (.getfield 327, 3) := by decide +kernel
theorem dX12_document_34 : decode cX12_document 34 = .ok (.irem, 1) := by decide +kernel
theorem dX12_document_35 : decode cX12_document 35 = .ok (.invokevirtual 352, 3) := by decide +kernel
theorem dX12_document_38 : decode cX12_document 38 = .ok (.ifCond .eq 7, 3) := by decide +kernel
theorem dX12_document_41 : decode cX12_document 41 = .ok (.iconst 1, 1) := by decide +kernel
theorem dX12_document_42 : decode cX12_document 42 = .ok (.goto 4, 3) := by decide +kernel
theorem dX12_document_45 : decode cX12_document 45 = .ok (.iconst 0, 1) := by decide +kernel
theorem dX12_document_46 : decode cX12_document 46 = .ok (.istore 4, 2) := by decide +kernel
theorem dX12_document_48 : decode cX12_document 48 = .ok (.aload_n 0, 1) := by decide +kernel
theorem dX12_document_49 : decode cX12_document 49 = .ok (.iload 4, 2) := by decide +kernel
theorem dX12_document_51 : decode cX12_document 51 = .ok (.ifCond .eq 7, 3) := by decide +kernel
theorem dX12_document_54 : decode cX12_document 54 = .ok (.iconst 0, 1) := by decide +kernel
theorem dX12_document_55 : decode cX12_document 55 = .ok (.goto 4, 3) := by decide +kernel
theorem dX12_document_58 : decode cX12_document 58 = .ok (.iconst 1, 1) := by decide +kernel
theorem dX12_document_59 : decode cX12_document 59 = .ok (.putfield 317, 3) := by decide +kernel
theorem dX12_document_62 : decode cX12_document 62 = .ok (.iload 4, 2) := by decide +kernel
theorem dX12_document_64 : decode cX12_document 64 = .ok (.ifCond .ne 5, 3) := by decide +kernel
theorem dX12_document_67 : decode cX12_document 67 = .ok (.iconst 0, 1) := by decide +kernel
theorem dX12_document_68 : decode cX12_document 68 = .ok (.ireturn, 1) := by decide +kernel
theorem dX12_document_69 : decode cX12_document 69 = .ok (.aload_n 0, 1) := by decide +kernel
theorem dX12_document_70 : decode cX12_document 70 = .ok (.getfield 77, 3) := by decide +kernel
theorem dX12_document_73 : decode cX12_document 73 = .ok (.iload_n 1, 1) := by decide +kernel
theorem dX12_document_74 : decode cX12_document 74 = .ok (.baload, 1) := by decide +kernel
theorem dX12_document_75 : decode cX12_document 75 = .ok (.ifCond .ne 5, 3) := by decide +kernel
theorem dX12_document_78 : decode cX12_document 78 = .ok (.iconst (-1), 1) := by decide +kernel
theorem dX12_document_79 : decode cX12_document 79 = .ok (.ireturn, 1) := by decide +kernel
theorem dX12_document_80 : decode cX12_document 80 = .ok (.aload_n 0, 1) := by decide +kernel
theorem dX12_document_81 : decode cX12_document 81 = .ok (.iload_n 1, 1) := by decide +kernel
theorem dX12_document_82 : decode cX12_document 82 = .ok (.iload_n 2, 1) := by decide +kernel
theorem dX12_document_83 : decode cX12_document 83 = .ok (.aload_n 0, 1) := by decide +kernel
theorem dX12_document_84 : decode cX12_document 84 = .ok (.getfield 327, 3) := by decide +kernel
theorem dX12_document_87 : decode cX12_document 87 = .ok (.irem, 1) := by decide +kernel
theorem dX12_document_88 : decode cX12_document 88 = .ok (.invokevirtual 364, 3) := by decide +kernel
theorem dX12_document_91 : decode cX12_document 91 = .ok (.istore 5, 2) := by decide +kernel
theorem dX12_document_93 : decode cX12_document 93 = .ok (.iload_n 3, 1) := by decide +kernel
theorem dX12_document_94 : decode cX12_document 94 = .ok (.iconst 2, 1) := by decide +kernel
theorem dX12_document_95 : decode cX12_document 95 = .ok (.if_icmp .ne 13, 3) := by decide +kernel
theorem dX12_document_98 : decode cX12_document 98 = .ok (.aload_n 0, 1) := by decide +kernel
theorem dX12_document_99 : decode cX12_document 99 = .ok (.iload 5, 2) := by decide +kernel
theorem dX12_document_101 : decode cX12_document 101 = .ok (.iload_n 2, 1) := by decide +kernel
theorem dX12_document_102 : decode cX12_document 102 = .ok (.invokevirtual 484, 3) := by decide +kernel
theorem dX12_document_105 : decode cX12_document 105 = .ok (.goto 35, 3) := by decide +kernel
theorem dX12_document_108 : decode cX12_document 108 = .ok (.aload_n 0, 1) := by decide +kernel
theorem dX12_document_109 : decode cX12_document 109 = .ok (.aload_n 0, 1) := by decide +kernel
theorem dX12_document_110 : decode cX12_document 110 = .ok (.iload 5, 2) := by decide +kernel
theorem dX12_document_112 : decode cX12_document 112 = .ok (.iload_n 3, 1) := by decide +kernel
theorem dX12_document_113 : decode cX12_document 113 = .ok (.ifCond .ne 13, 3) := by decide +kernel
theorem dX12_document_116 : decode cX12_document 116 = .ok (.aload_n 0, 1) := by decide +kernel
theorem dX12_document_117 : decode cX12_document 117 = .ok (.getfield 131, 3) := by decide +kernel
theorem dX12_document_120 : decode cX12_document 120 = .ok (.iload 5, 2) := by decide +kernel
theorem dX12_document_122 : decode cX12_document 122 = .ok (.iaload, 1) := by decide +kernel
theorem dX12_document_123 : decode cX12_document 123 = .ok (.goto 10, 3) := by decide +kernel
theorem dX12_document_126 : decode cX12_document 126 = .ok (.aload_n 0, 1) := by decide +kernel
theorem dX12_document_127 : decode cX12_document 127 = .ok (.getfield 134, 3) := by decide +kernel
theorem dX12_document_130 : decode cX12_document 130 = .ok (.iload 5, 2) := by decide +kernel
theorem dX12_document_132 : decode cX12_document 132 = .ok (.iaload, 1) := by decide +kernel
theorem dX12_document_133 : decode cX12_document 133 = .ok (.invokevirtual 389, 3) := by decide +kernel
theorem dX12_document_136 : decode cX12_document 136 = .ok (.iload_n 2, 1) := by decide +kernel
theorem dX12_document_137 : decode cX12_document 137 = .ok (.invokevirtual 392, 3) := by decide +kernel
theorem dX12_document_140 : decode cX12_document 140 = .ok (.ireturn, 1) := by decide +kernel
theorem dX12_act_0 : decode cX12_act 0 = .ok (.aload_n 0, 1) := by decide +kernel
theorem dX12_act_1 : decode cX12_act 1 = .ok (.aload_n 0, 1) := by decide +kernel
theorem dX12_act_2 : decode cX12_act 2 = .ok (.iload_n 1, 1) := by decide +kernel
theorem dX12_act_3 : decode cX12_act 3 = .ok (.iload_n 2, 1) := by decide +kernel
theorem dX12_act_4 : decode cX12_act 4 = .ok (.invokevirtual 801, 3) := by decide +kernel
theorem dX12_act_7 : decode cX12_act 7 = .ok (.ifCond .eq 7, 3) := by decide +kernel
theorem dX12_act_10 : decode cX12_act 10 = .ok (.iconst 0, 1) := by decide +kernel
theorem dX12_act_11 : decode cX12_act 11 = .ok (.goto 4, 3) := by decide +kernel
theorem dX12_act_14 : decode cX12_act 14 = .ok (.iconst 1, 1) := by decide +kernel
theorem dX12_act_15 : decode cX12_act 15 = .ok (.putfield 317, 3) := by decide +kernel
theorem dX12_act_18 : decode cX12_act 18 = .ok (.aload_n 0, 1) := by decide +kernel
theorem dX12_act_19 : decode cX12_act 19 = .ok (.getfield 317, 3) := by decide +kernel
theorem dX12_act_22 : decode cX12_act 22 = .ok (.ifCond .le 5, 3) := by decide +kernel
theorem dX12_act_25 : decode cX12_act 25 = .ok (.iconst 0, 1) := by decide +kernel
theorem dX12_act_26 : decode cX12_act 26 = .ok (.ireturn, 1) := by decide +kernel
theorem dX12_act_27 : decode cX12_act 27 = .ok (.aload_n 0, 1) := by decide +kernel
theorem dX12_act_28 : decode cX12_act 28 = .ok (.iload_n 1, 1) := by decide +kernel
theorem dX12_act_29 : decode cX12_act 29 = .ok (.iload_n 2, 1) := by decide +kernel
theorem dX12_act_30 : decode cX12_act 30 = .ok (.invokevirtual 364, 3) := by decide +kernel
theorem dX12_act_33 : decode cX12_act 33 = .ok (.istore 4, 2) := by decide +kernel
theorem dX12_act_35 : decode cX12_act 35 = .ok (.aload_n 0, 1) := by decide +kernel
theorem dX12_act_36 : decode cX12_act 36 = .ok (.getfield 77, 3) := by decide +kernel
theorem dX12_act_39 : decode cX12_act 39 = .ok (.iload_n 1, 1) := by decide +kernel
theorem dX12_act_40 : decode cX12_act 40 = .ok (.baload, 1) := by decide +kernel
theorem dX12_act_41 : decode cX12_act 41 = .ok (.ifCond .eq 25, 3) := by decide +kernel
theorem dX12_act_44 : decode cX12_act 44 = .ok (.iload_n 3, 1) := by decide +kernel
theorem dX12_act_45 : decode cX12_act 45 = .ok (.aload_n 0, 1) := by decide +kernel
theorem dX12_act_46 : decode cX12_act 46 = .ok (.getfield 128, 3) := by decide +kernel
theorem dX12_act_49 : decode cX12_act 49 = .ok (.iload 4, 2) := by decide +kernel
theorem dX12_act_51 : decode cX12_act 51 = .ok (.iaload, 1) := by decide +kernel
theorem dX12_act_52 : decode cX12_act 52 = .ok (.if_icmp .le 14, 3) := by decide +kernel
theorem dX12_act_55 : decode cX12_act 55 = .ok (.iload_n 3, 1) := by decide +kernel
theorem dX12_act_56 : decode cX12_act 56 = .ok (.aload_n 0, 1) := by decide +kernel
theorem dX12_act_57 : decode cX12_act 57 = .ok (.getfield 131, 3) := by decide +kernel
theorem dX12_act_60 : decode cX12_act 60 = .ok (.iload 4, 2) := by decide +kernel
theorem dX12_act_62 : decode cX12_act 62 = .ok (.iaload, 1) := by decide +kernel
theorem dX12_act_63 : decode cX12_act 63 = .ok (.if_icmp .le 7, 3) := by decide +kernel
theorem dX12_act_66 : decode cX12_act 66 = .ok (.iconst (-1), 1) := by decide +kernel
theorem dX12_act_67 : decode cX12_act 67 = .ok (.goto 15, 3) := by decide +kernel
theorem dX12_act_70 : decode cX12_act 70 = .ok (.aload_n 0, 1) := by decide +kernel
theorem dX12_act_71 : decode cX12_act 71 = .ok (.getfield 113, 3) := by decide +kernel
theorem dX12_act_74 : decode cX12_act 74 = .ok (.aload_n 0, 1) := by decide +kernel
theorem dX12_act_75 : decode cX12_act 75 = .ok (.iload 4, 2) := by decide +kernel
theorem dX12_act_77 : decode cX12_act 77 = .ok (.iload_n 3, 1) := by decide +kernel
theorem dX12_act_78 : decode cX12_act 78 = .ok (.invokevirtual 389, 3) := by decide +kernel
theorem dX12_act_81 : decode cX12_act 81 = .ok (.iaload, 1) := by decide +kernel
theorem dX12_act_82 : decode cX12_act 82 = .ok (.ireturn, 1) := by decide +kernel
theorem dX12_disk_0 : decode cX12_disk 0 = .ok (.aload_n 0, 1) := by decide +kernel
theorem dX12_disk_1 : decode cX12_disk 1 = .ok (.iload_n 1, 1) := by decide +kernel
theorem dX12_disk_2 : decode cX12_disk 2 = .ok (.invokevirtual 789, 3) := by decide +kernel
theorem dX12_disk_5 : decode cX12_disk 5 = .ok (.ifCond .eq 54, 3) := by decide +kernel
theorem dX12_disk_8 : decode cX12_disk 8 = .ok (.iload_n 3, 1) := by decide +kernel
theorem dX12_disk_9 : decode cX12_disk 9 = .ok (.ifCond .lt 50, 3) := by decide +kernel
theorem dX12_disk_12 : decode cX12_disk 12 = .ok (.iload_n 3, 1) := by decide +kernel
theorem dX12_disk_13 : decode cX12_disk 13 = .ok (.sipush 202, 3) := by decide +kernel
theorem dX12_disk_16 : decode cX12_disk 16 = .ok (.if_icmp .ge 43, 3) := by decide +kernel
theorem dX12_disk_19 : decode cX12_disk 19 = .ok (.iload 4, 2) := by decide +kernel
theorem dX12_disk_21 : decode cX12_disk 21 = .ok (.ifCond .lt 38, 3) := by decide +kernel
theorem dX12_disk_24 : decode cX12_disk 24 = .ok (.iload 4, 2) := by decide +kernel
theorem dX12_disk_26 : decode cX12_disk 26 = .ok (.bipush 64, 2) := by decide +kernel
theorem dX12_disk_28 : decode cX12_disk 28 = .ok (.if_icmp .ge 31, 3) := by decide +kernel
theorem dX12_disk_31 : decode cX12_disk 31 = .ok (.iload_n 1, 1) := by decide +kernel
theorem dX12_disk_32 : decode cX12_disk 32 = .ok (.aload_n 0, 1) := by decide +kernel
theorem dX12_disk_33 : decode cX12_disk 33 = .ok (.getfield 321, 3) := by decide +kernel
theorem dX12_disk_36 : decode cX12_disk 36 = .ok (.if_icmp .ne 10, 3) := by decide +kernel
theorem dX12_disk_39 : decode cX12_disk 39 = .ok (.iload_n 2, 1) := by decide +kernel
theorem dX12_disk_40 : decode cX12_disk 40 = .ok (.ifCond .ne 19, 3) := by decide +kernel
theorem dX12_disk_43 : decode cX12_disk 43 = .ok (.goto 12, 3) := by decide +kernel
theorem dX12_disk_46 : decode cX12_disk 46 = .ok (.aload_n 0, 1) := by decide +kernel
theorem dX12_disk_47 : decode cX12_disk 47 = .ok (.iload_n 1, 1) := by decide +kernel
theorem dX12_disk_48 : decode cX12_disk 48 = .ok (.iload_n 2, 1) := by decide +kernel
theorem dX12_disk_49 : decode cX12_disk 49 = .ok (.invokevirtual 801, 3) := by decide +kernel
theorem dX12_disk_52 : decode cX12_disk 52 = .ok (.ifCond .eq 7, 3) := by decide +kernel
theorem dX12_disk_55 : decode cX12_disk 55 = .ok (.iconst 1, 1) := by decide +kernel
theorem dX12_disk_56 : decode cX12_disk 56 = .ok (.goto 4, 3) := by decide +kernel
theorem dX12_disk_59 : decode cX12_disk 59 = .ok (.iconst 0, 1) := by decide +kernel
theorem dX12_disk_60 : decode cX12_disk 60 = .ok (.istore 5, 2) := by decide +kernel
theorem dX12_disk_62 : decode cX12_disk 62 = .ok (.aload_n 0, 1) := by decide +kernel
theorem dX12_disk_63 : decode cX12_disk 63 = .ok (.iload 5, 2) := by decide +kernel
theorem dX12_disk_65 : decode cX12_disk 65 = .ok (.ifCond .eq 7, 3) := by decide +kernel
theorem dX12_disk_68 : decode cX12_disk 68 = .ok (.iconst 0, 1) := by decide +kernel
theorem dX12_disk_69 : decode cX12_disk 69 = .ok (.goto 4, 3) := by decide +kernel
theorem dX12_disk_72 : decode cX12_disk 72 = .ok (.iconst 1, 1) := by decide +kernel
theorem dX12_disk_73 : decode cX12_disk 73 = .ok (.putfield 317, 3) := by decide +kernel
theorem dX12_disk_76 : decode cX12_disk 76 = .ok (.iload 5, 2) := by decide +kernel
theorem dX12_disk_78 : decode cX12_disk 78 = .ok (.ifCond .eq 41, 3) := by decide +kernel
theorem dX12_disk_81 : decode cX12_disk 81 = .ok (.aload_n 0, 1) := by decide +kernel
theorem dX12_disk_82 : decode cX12_disk 82 = .ok (.iload_n 1, 1) := by decide +kernel
theorem dX12_disk_83 : decode cX12_disk 83 = .ok (.aload_n 0, 1) := by decide +kernel
theorem dX12_disk_84 : decode cX12_disk 84 = .ok (.getfield 321, 3) := by decide +kernel
theorem dX12_disk_87 : decode cX12_disk 87 = .ok (.if_icmp .ne 8, 3) := by decide +kernel
theorem dX12_disk_90 : decode cX12_disk 90 = .ok (.bipush 20, 2) := by decide +kernel
theorem dX12_disk_92 : decode cX12_disk 92 = .ok (.goto 9, 3) := by decide +kernel
theorem dX12_disk_95 : decode cX12_disk 95 = .ok (.aload_n 0, 1) := by decide +kernel
theorem dX12_disk_96 : decode cX12_disk 96 = .ok (.iload_n 1, 1) := by decide +kernel
theorem dX12_disk_97 : decode cX12_disk 97 = .ok (.iload_n 2, 1) := by decide +kernel
theorem dX12_disk_98 : decode cX12_disk 98 = .ok (.invokevirtual 364, 3) := by decide +kernel
theorem dX12_disk_101 : decode cX12_disk 101 = .ok (.sipush 202, 3) := by decide +kernel
theorem dX12_disk_104 : decode cX12_disk 104 = .ok (.imul, 1) := by decide +kernel
theorem dX12_disk_105 : decode cX12_disk 105 = .ok (.iload_n 3, 1) := by decide +kernel
theorem dX12_disk_106 : decode cX12_disk 106 = .ok (.iadd, 1) := by decide +kernel
theorem dX12_disk_107 : decode cX12_disk 107 = .ok (.bipush 64, 2) := by decide +kernel
theorem dX12_disk_109 : decode cX12_disk 109 = .ok (.imul, 1) := by decide +kernel
theorem dX12_disk_110 : decode cX12_disk 110 = .ok (.iload 4, 2) := by decide +kernel
theorem dX12_disk_112 : decode cX12_disk 112 = .ok (.iadd, 1) := by decide +kernel
theorem dX12_disk_113 : decode cX12_disk 113 = .ok (.invokevirtual 459, 3) := by decide +kernel
theorem dX12_disk_116 : decode cX12_disk 116 = .ok (.goto 4, 3) := by decide +kernel
theorem dX12_disk_119 : decode cX12_disk 119 = .ok (.iconst 0, 1) := by decide +kernel
theorem dX12_disk_120 : decode cX12_disk 120 = .ok (.ireturn, 1) := by decide +kernel
theorem dX12_isSegment_0 : decode cX12_isSegment 0 = .ok (.aload_n 0, 1) := by decide +kernel
theorem dX12_isSegment_1 : decode cX12_isSegment 1 = .ok (.iload_n 1, 1) := by decide +kernel
theorem dX12_isSegment_2 : decode cX12_isSegment 2 = .ok (.iload_n 2, 1) := by decide +kernel
theorem dX12_isSegment_3 : decode cX12_isSegment 3 = .ok (.invokevirtual 801, 3) := by decide +kernel
theorem dX12_isSegment_6 : decode cX12_isSegment 6 = .ok (.ifCond .eq 35, 3) := by decide +kernel
theorem dX12_isSegment_9 : decode cX12_isSegment 9 = .ok (.aload_n 0, 1) := by decide +kernel
theorem dX12_isSegment_10 : decode cX12_isSegment 10 = .ok (.getfield 77, 3) := by decide +kernel
theorem dX12_isSegment_13 : decode cX12_isSegment 13 = .ok (.iload_n 1, 1) := by decide +kernel
theorem dX12_isSegment_14 : decode cX12_isSegment 14 = .ok (.baload, 1) := by decide +kernel
theorem dX12_isSegment_15 : decode cX12_isSegment 15 = .ok (.ifCond .eq 26, 3) := by decide +kernel
theorem dX12_isSegment_18 : decode cX12_isSegment 18 = .ok (.iload_n 3, 1) := by decide +kernel
theorem dX12_isSegment_19 : decode cX12_isSegment 19 = .ok (.ifCond .lt 22, 3) := by decide +kernel
theorem dX12_isSegment_22 : decode cX12_isSegment 22 = .ok (.iload_n 3, 1) := by decide +kernel
theorem dX12_isSegment_23 : decode cX12_isSegment 23 = .ok (.aload_n 0, 1) := by decide +kernel
theorem dX12_isSegment_24 : decode cX12_isSegment 24 = .ok (.getfield 194, 3) := by decide +kernel
theorem dX12_isSegment_27 : decode cX12_isSegment 27 = .ok (.aload_n 0, 1) := by decide +kernel
theorem dX12_isSegment_28 : decode cX12_isSegment 28 = .ok (.iload_n 1, 1) := by decide +kernel
theorem dX12_isSegment_29 : decode cX12_isSegment 29 = .ok (.iload_n 2, 1) := by decide +kernel
theorem dX12_isSegment_30 : decode cX12_isSegment 30 = .ok (.invokevirtual 364, 3) := by decide +kernel
theorem dX12_isSegment_33 : decode cX12_isSegment 33 = .ok (.iaload, 1) := by decide +kernel
theorem dX12_isSegment_34 : decode cX12_isSegment 34 = .ok (.if_icmp .ge 7, 3) := by decide +kernel
theorem dX12_isSegment_37 : decode cX12_isSegment 37 = .ok (.iconst 1, 1) := by decide +kernel
theorem dX12_isSegment_38 : decode cX12_isSegment 38 = .ok (.goto 4, 3) := by decide +kernel
theorem dX12_isSegment_41 : decode cX12_isSegment 41 = .ok (.iconst 0, 1) := by decide +kernel
theorem dX12_isSegment_42 : decode cX12_isSegment 42 = .ok (.ireturn, 1) := by decide +kernel
theorem dX12_segment_0 : decode cX12_segment 0 = .ok (.aload_n 0, 1) := by decide +kernel
theorem dX12_segment_1 : decode cX12_segment 1 = .ok (.aload_n 0, 1) := by decide +kernel
theorem dX12_segment_2 : decode cX12_segment 2 = .ok (.iload_n 1, 1) := by decide +kernel
theorem dX12_segment_3 : decode cX12_segment 3 = .ok (.iload_n 2, 1) := by decide +kernel
theorem dX12_segment_4 : decode cX12_segment 4 = .ok (.iload_n 3, 1) := by decide +kernel
theorem dX12_segment_5 : decode cX12_segment 5 = .ok (.invokevirtual 804, 3) := by decide +kernel
theorem dX12_segment_8 : decode cX12_segment 8 = .ok (.ifCond .eq 18, 3) := by decide +kernel
theorem dX12_segment_11 : decode cX12_segment 11 = .ok (.iload 4, 2) := by decide +kernel
theorem dX12_segment_13 : decode cX12_segment 13 = .ok (.ifCond .lt 13, 3) := by decide +kernel
theorem dX12_segment_16 : decode cX12_segment 16 = .ok (.iload 4, 2) := by decide +kernel
theorem dX12_segment_18 : decode cX12_segment 18 = .ok (.iconst 2, 1) := by decide +kernel
theorem dX12_segment_19 : decode cX12_segment 19 = .ok (.if_icmp .gt 7, 3) := by decide +kernel
theorem dX12_segment_22 : decode cX12_segment 22 = .ok (.iconst 0, 1) := by decide +kernel
theorem dX12_segment_23 : decode cX12_segment 23 = .ok (.goto 4, 3) := by decide +kernel
theorem dX12_segment_26 : decode cX12_segment 26 = .ok (.iconst 1, 1) := by decide +kernel
theorem dX12_segment_27 : decode cX12_segment 27 = .ok (.putfield 317, 3) := by decide +kernel
theorem dX12_segment_30 : decode cX12_segment 30 = .ok (.aload_n 0, 1) := by decide +kernel
theorem dX12_segment_31 : decode cX12_segment 31 = .ok (.getfield 317, 3) := by decide +kernel
theorem dX12_segment_34 : decode cX12_segment 34 = .ok (.ifCond .le 5, 3) := by decide +kernel
theorem dX12_segment_37 : decode cX12_segment 37 = .ok (.iconst 0, 1) := by decide +kernel
theorem dX12_segment_38 : decode cX12_segment 38 = .ok (.ireturn, 1) := by decide +kernel
theorem dX12_segment_39 : decode cX12_segment 39 = .ok (.iconst 5, 1) := by decide +kernel
theorem dX12_segment_40 : decode cX12_segment 40 = .ok (.aload_n 0, 1) := by decide +kernel
theorem dX12_segment_41 : decode cX12_segment 41 = .ok (.iload_n 1, 1) := by decide +kernel
theorem dX12_segment_42 : decode cX12_segment 42 = .ok (.iload_n 2, 1) := by decide +kernel
theorem dX12_segment_43 : decode cX12_segment 43 = .ok (.invokevirtual 364, 3) := by decide +kernel
theorem dX12_segment_46 : decode cX12_segment 46 = .ok (.imul, 1) := by decide +kernel
theorem dX12_segment_47 : decode cX12_segment 47 = .ok (.iload_n 3, 1) := by decide +kernel
theorem dX12_segment_48 : decode cX12_segment 48 = .ok (.iadd, 1) := by decide +kernel
theorem dX12_segment_49 : decode cX12_segment 49 = .ok (.istore 5, 2) := by decide +kernel
theorem dX12_segment_51 : decode cX12_segment 51 = .ok (.iload 4, 2) := by decide +kernel
theorem dX12_segment_53 : decode cX12_segment 53 = .ok (.iconst 2, 1) := by decide +kernel
theorem dX12_segment_54 : decode cX12_segment 54 = .ok (.if_icmp .ne 14, 3) := by decide +kernel
theorem dX12_segment_57 : decode cX12_segment 57 = .ok (.aload_n 0, 1) := by decide +kernel
theorem dX12_segment_58 : decode cX12_segment 58 = .ok (.iload 5, 2) := by decide +kernel
theorem dX12_segment_60 : decode cX12_segment 60 = .ok (.invokevirtual 807, 3) := by decide +kernel
theorem dX12_segment_63 : decode cX12_segment 63 = .ok (.aload_n 0, 1) := by decide +kernel
theorem dX12_segment_64 : decode cX12_segment 64 = .ok (.getfield 810, 3) := by decide +kernel
theorem dX12_segment_67 : decode cX12_segment 67 = .ok (.ireturn, 1) := by decide +kernel
theorem dX12_segment_68 : decode cX12_segment 68 = .ok (.iconst 0, 1) := by decide +kernel
theorem dX12_segment_69 : decode cX12_segment 69 = .ok (.istore 6, 2) := by decide +kernel
theorem dX12_segment_71 : decode cX12_segment 71 = .ok (.iconst 0, 1) := by decide +kernel
theorem dX12_segment_72 : decode cX12_segment 72 = .ok (.istore 7, 2) := by decide +kernel
theorem dX12_segment_74 : decode cX12_segment 74 = .ok (.iload 7, 2) := by decide +kernel
theorem dX12_segment_76 : decode cX12_segment 76 = .ok (.aload_n 0, 1) := by decide +kernel
theorem dX12_segment_77 : decode cX12_segment 77 = .ok (.getfield 197, 3) := by decide +kernel
theorem dX12_segment_80 : decode cX12_segment 80 = .ok (.iload 5, 2) := by decide +kernel
theorem dX12_segment_82 : decode cX12_segment 82 = .ok (.iaload, 1) := by decide +kernel
theorem dX12_segment_83 : decode cX12_segment 83 = .ok (.if_icmp .ge 40, 3) := by decide +kernel
theorem dX12_segment_86 : decode cX12_segment 86 = .ok (.iload 6, 2) := by decide +kernel
theorem dX12_segment_88 : decode cX12_segment 88 = .ok (.iload 4, 2) := by decide +kernel
theorem dX12_segment_90 : decode cX12_segment 90 = .ok (.ifCond .eq 19, 3) := by decide +kernel
theorem dX12_segment_93 : decode cX12_segment 93 = .ok (.aload_n 0, 1) := by decide +kernel
theorem dX12_segment_94 : decode cX12_segment 94 = .ok (.getfield 206, 3) := by decide +kernel
theorem dX12_segment_97 : decode cX12_segment 97 = .ok (.bipush 100, 2) := by decide +kernel
theorem dX12_segment_99 : decode cX12_segment 99 = .ok (.iload 5, 2) := by decide +kernel
theorem dX12_segment_101 : decode cX12_segment 101 = .ok (.imul, 1) := by decide +kernel
theorem dX12_segment_102 : decode cX12_segment 102 = .ok (.iload 7, 2) := by decide +kernel
theorem dX12_segment_104 : decode cX12_segment 104 = .ok (.iadd, 1) := by decide +kernel
theorem dX12_segment_105 : decode cX12_segment 105 = .ok (.baload, 1) := by decide +kernel
theorem dX12_segment_106 : decode cX12_segment 106 = .ok (.ifCond .eq 7, 3) := by decide +kernel
theorem dX12_segment_109 : decode cX12_segment 109 = .ok (.iconst 1, 1) := by decide +kernel
theorem dX12_segment_110 : decode cX12_segment 110 = .ok (.goto 4, 3) := by decide +kernel
theorem dX12_segment_113 : decode cX12_segment 113 = .ok (.iconst 0, 1) := by decide +kernel
theorem dX12_segment_114 : decode cX12_segment 114 = .ok (.iadd, 1) := by decide +kernel
theorem dX12_segment_115 : decode cX12_segment 115 = .ok (.istore 6, 2) := by decide +kernel
theorem dX12_segment_117 : decode cX12_segment 117 = .ok (.iinc 7 1, 3) := by decide +kernel
theorem dX12_segment_120 : decode cX12_segment 120 = .ok (.goto (-46), 3) := by decide +kernel
theorem dX12_segment_123 : decode cX12_segment 123 = .ok (.iload 6, 2) := by decide +kernel
theorem dX12_segment_125 : decode cX12_segment 125 = .ok (.ireturn, 1) := by decide +kernel
theorem dX12_octet_0 : decode cX12_octet 0 = .ok (.aload_n 0, 1) := by decide +kernel
theorem dX12_octet_1 : decode cX12_octet 1 = .ok (.aload_n 0, 1) := by decide +kernel
theorem dX12_octet_2 : decode cX12_octet 2 = .ok (.iload_n 1, 1) := by decide +kernel
theorem dX12_octet_3 : decode cX12_octet 3 = .ok (.iload_n 2, 1) := by decide +kernel
theorem dX12_octet_4 : decode cX12_octet 4 = .ok (.iload_n 3, 1) := by decide +kernel
theorem dX12_octet_5 : decode cX12_octet 5 = .ok (.invokevirtual 804, 3) := by decide +kernel
theorem dX12_octet_8 : decode cX12_octet 8 = .ok (.ifCond .eq 7, 3) := by decide +kernel
theorem dX12_octet_11 : decode cX12_octet 11 = .ok (.iconst 0, 1) := by decide +kernel
theorem dX12_octet_12 : decode cX12_octet 12 = .ok (.goto 4, 3) := by decide +kernel
theorem dX12_octet_15 : decode cX12_octet 15 = .ok (.iconst 1, 1) := by decide +kernel
theorem dX12_octet_16 : decode cX12_octet 16 = .ok (.putfield 317, 3) := by decide +kernel
theorem dX12_octet_19 : decode cX12_octet 19 = .ok (.aload_n 0, 1) := by decide +kernel
theorem dX12_octet_20 : decode cX12_octet 20 = .ok (.getfield 317, 3) := by decide +kernel
theorem dX12_octet_23 : decode cX12_octet 23 = .ok (.ifCond .le 5, 3) := by decide +kernel
theorem dX12_octet_26 : decode cX12_octet 26 = .ok (.iconst 0, 1) := by decide +kernel
theorem dX12_octet_27 : decode cX12_octet 27 = .ok (.ireturn, 1) := by decide +kernel
theorem dX12_octet_28 : decode cX12_octet 28 = .ok (.aload_n 0, 1) := by decide +kernel
theorem dX12_octet_29 : decode cX12_octet 29 = .ok (.iconst 5, 1) := by decide +kernel
theorem dX12_octet_30 : decode cX12_octet 30 = .ok (.aload_n 0, 1) := by decide +kernel
theorem dX12_octet_31 : decode cX12_octet 31 = .ok (.iload_n 1, 1) := by decide +kernel
theorem dX12_octet_32 : decode cX12_octet 32 = .ok (.iload_n 2, 1) := by decide +kernel
theorem dX12_octet_33 : decode cX12_octet 33 = .ok (.invokevirtual 364, 3) := by decide +kernel
theorem dX12_octet_36 : decode cX12_octet 36 = .ok (.imul, 1) := by decide +kernel
theorem dX12_octet_37 : decode cX12_octet 37 = .ok (.iload_n 3, 1) := by decide +kernel
theorem dX12_octet_38 : decode cX12_octet 38 = .ok (.iadd, 1) := by decide +kernel
theorem dX12_octet_39 : decode cX12_octet 39 = .ok (.invokevirtual 807, 3) := by decide +kernel
theorem dX12_octet_42 : decode cX12_octet 42 = .ok (.aload_n 0, 1) := by decide +kernel
theorem dX12_octet_43 : decode cX12_octet 43 = .ok (.iload 4, 2) := by decide +kernel
theorem dX12_octet_45 : decode cX12_octet 45 = .ok (.ifCond .lt 16, 3) := by decide +kernel
theorem dX12_octet_48 : decode cX12_octet 48 = .ok (.iload 4, 2) := by decide +kernel
theorem dX12_octet_50 : decode cX12_octet 50 = .ok (.aload_n 0, 1) := by decide +kernel
theorem dX12_octet_51 : decode cX12_octet 51 = .ok (.getfield 810, 3) := by decide +kernel
theorem dX12_octet_54 : decode cX12_octet 54 = .ok (.if_icmp .ge 7, 3) := by decide +kernel
theorem dX12_octet_57 : decode cX12_octet 57 = .ok (.iconst 0, 1) := by decide +kernel
theorem dX12_octet_58 : decode cX12_octet 58 = .ok (.goto 4, 3) := by decide +kernel
theorem dX12_octet_61 : decode cX12_octet 61 = .ok (.iconst 1, 1) := by decide +kernel
theorem dX12_octet_62 : decode cX12_octet 62 = .ok (.putfield 317, 3) := by decide +kernel
theorem dX12_octet_65 : decode cX12_octet 65 = .ok (.aload_n 0, 1) := by decide +kernel
theorem dX12_octet_66 : decode cX12_octet 66 = .ok (.getfield 317, 3) := by decide +kernel
theorem dX12_octet_69 : decode cX12_octet 69 = .ok (.ifCond .le 7, 3) := by decide +kernel
theorem dX12_octet_72 : decode cX12_octet 72 = .ok (.iconst 0, 1) := by decide +kernel
theorem dX12_octet_73 : decode cX12_octet 73 = .ok (.goto 14, 3) := by decide +kernel
theorem dX12_octet_76 : decode cX12_octet 76 = .ok (.aload_n 0, 1) := by decide +kernel
theorem dX12_octet_77 : decode cX12_octet 77 = .ok (.getfield 295, 3) := by decide +kernel
theorem dX12_octet_80 : decode cX12_octet 80 = .ok (.iload 4, 2) := by decide +kernel
theorem dX12_octet_82 : decode cX12_octet 82 = .ok (.baload, 1) := by decide +kernel
theorem dX12_octet_83 : decode cX12_octet 83 = .ok (.sipush 255, 3) := by decide +kernel
theorem dX12_octet_86 : decode cX12_octet 86 = .ok (.iand, 1) := by decide +kernel
theorem dX12_octet_87 : decode cX12_octet 87 = .ok (.ireturn, 1) := by decide +kernel
theorem dX12_told_0 : decode cX12_told 0 = .ok (.aload_n 0, 1) := by decide +kernel
theorem dX12_told_1 : decode cX12_told 1 = .ok (.iload_n 1, 1) := by decide +kernel
theorem dX12_told_2 : decode cX12_told 2 = .ok (.ifCond .lt 13, 3) := by decide +kernel
theorem dX12_told_5 : decode cX12_told 5 = .ok (.iload_n 1, 1) := by decide +kernel
theorem dX12_told_6 : decode cX12_told 6 = .ok (.bipush 6, 2) := by decide +kernel
theorem dX12_told_8 : decode cX12_told 8 = .ok (.if_icmp .gt 7, 3) := by decide +kernel
theorem dX12_told_11 : decode cX12_told 11 = .ok (.iconst 0, 1) := by decide +kernel
theorem dX12_told_12 : decode cX12_told 12 = .ok (.goto 4, 3) := by decide +kernel
theorem dX12_told_15 : decode cX12_told 15 = .ok (.iconst 1, 1) := by decide +kernel
theorem dX12_told_16 : decode cX12_told 16 = .ok (.putfield 317, 3) := by decide +kernel
theorem dX12_told_19 : decode cX12_told 19 = .ok (.aload_n 0, 1) := by decide +kernel
theorem dX12_told_20 : decode cX12_told 20 = .ok (.getfield 317, 3) := by decide +kernel
theorem dX12_told_23 : decode cX12_told 23 = .ok (.ifCond .le 5, 3) := by decide +kernel
theorem dX12_told_26 : decode cX12_told 26 = .ok (.iconst 0, 1) := by decide +kernel
theorem dX12_told_27 : decode cX12_told 27 = .ok (.ireturn, 1) := by decide +kernel
theorem dX12_told_28 : decode cX12_told 28 = .ok (.iload_n 1, 1) := by decide +kernel
theorem dX12_told_29 : decode cX12_told 29 = .ok (.iconst 2, 1) := by decide +kernel
theorem dX12_told_30 : decode cX12_told 30 = .ok (.if_icmp .ne 30, 3) := by decide +kernel
theorem dX12_told_33 : decode cX12_told 33 = .ok (.iconst 0, 1) := by decide +kernel
theorem dX12_told_34 : decode cX12_told 34 = .ok (.istore_n 2, 1) := by decide +kernel
theorem dX12_told_35 : decode cX12_told 35 = .ok (.iconst 0, 1) := by decide +kernel
theorem dX12_told_36 : decode cX12_told 36 = .ok (.istore_n 3, 1) := by decide +kernel
theorem dX12_told_37 : decode cX12_told 37 = .ok (.iload_n 3, 1) := by decide +kernel
theorem dX12_told_38 : decode cX12_told 38 = .ok (.bipush 36, 2) := by decide +kernel
theorem dX12_told_40 : decode cX12_told 40 = .ok (.if_icmp .ge 18, 3) := by decide +kernel
theorem dX12_told_43 : decode cX12_told 43 = .ok (.iload_n 2, 1) := by decide +kernel
theorem dX12_told_44 : decode cX12_told 44 = .ok (.aload_n 0, 1) := by decide +kernel
theorem dX12_told_45 : decode cX12_told 45 = .ok (.getfield 209, 3) := by decide +kernel
theorem dX12_told_48 : decode cX12_told 48 = .ok (.iload_n 3, 1) := by decide +kernel
theorem dX12_told_49 : decode cX12_told 49 = .ok (.iaload, 1) := by decide +kernel
theorem dX12_told_50 : decode cX12_told 50 = .ok (.iadd, 1) := by decide +kernel
theorem dX12_told_51 : decode cX12_told 51 = .ok (.istore_n 2, 1) := by decide +kernel
theorem dX12_told_52 : decode cX12_told 52 = .ok (.iinc 3 1, 3) := by decide +kernel
theorem dX12_told_55 : decode cX12_told 55 = .ok (.goto (-18), 3) := by decide +kernel
theorem dX12_told_58 : decode cX12_told 58 = .ok (.iload_n 2, 1) := by decide +kernel
theorem dX12_told_59 : decode cX12_told 59 = .ok (.ireturn, 1) := by decide +kernel
theorem dX12_told_60 : decode cX12_told 60 = .ok (.iload_n 1, 1) := by decide +kernel
theorem dX12_told_61 : decode cX12_told 61 = .ok (.bipush 6, 2) := by decide +kernel
theorem dX12_told_63 : decode cX12_told 63 = .ok (.if_icmp .ne 38, 3) := by decide +kernel
theorem dX12_told_66 : decode cX12_told 66 = .ok (.iconst 0, 1) := by decide +kernel
theorem dX12_told_67 : decode cX12_told 67 = .ok (.istore_n 2, 1) := by decide +kernel
theorem dX12_told_68 : decode cX12_told 68 = .ok (.iconst 0, 1) := by decide +kernel
theorem dX12_told_69 : decode cX12_told 69 = .ok (.istore_n 3, 1) := by decide +kernel
theorem dX12_told_70 : decode cX12_told 70 = .ok (.iload_n 3, 1) := by decide +kernel
theorem dX12_told_71 : decode cX12_told 71 = .ok (.bipush 40, 2) := by decide +kernel
theorem dX12_told_73 : decode cX12_told 73 = .ok (.if_icmp .ge 26, 3) := by decide +kernel
theorem dX12_told_76 : decode cX12_told 76 = .ok (.iload_n 2, 1) := by decide +kernel
theorem dX12_told_77 : decode cX12_told 77 = .ok (.aload_n 0, 1) := by decide +kernel
theorem dX12_told_78 : decode cX12_told 78 = .ok (.getfield 225, 3) := by decide +kernel
theorem dX12_told_81 : decode cX12_told 81 = .ok (.iload_n 3, 1) := by decide +kernel
theorem dX12_told_82 : decode cX12_told 82 = .ok (.baload, 1) := by decide +kernel
theorem dX12_told_83 : decode cX12_told 83 = .ok (.ifCond .eq 7, 3) := by decide +kernel
theorem dX12_told_86 : decode cX12_told 86 = .ok (.iconst 1, 1) := by decide +kernel
theorem dX12_told_87 : decode cX12_told 87 = .ok (.goto 4, 3) := by decide +kernel
theorem dX12_told_90 : decode cX12_told 90 = .ok (.iconst 0, 1) := by decide +kernel
theorem dX12_told_91 : decode cX12_told 91 = .ok (.iadd, 1) := by decide +kernel
theorem dX12_told_92 : decode cX12_told 92 = .ok (.istore_n 2, 1) := by decide +kernel
theorem dX12_told_93 : decode cX12_told 93 = .ok (.iinc 3 1, 3) := by decide +kernel
theorem dX12_told_96 : decode cX12_told 96 = .ok (.goto (-26), 3) := by decide +kernel
theorem dX12_told_99 : decode cX12_told 99 = .ok (.iload_n 2, 1) := by decide +kernel
theorem dX12_told_100 : decode cX12_told 100 = .ok (.ireturn, 1) := by decide +kernel
theorem dX12_told_101 : decode cX12_told 101 = .ok (.iload_n 1, 1) := by decide +kernel
theorem dX12_told_102 : decode cX12_told 102 = .ok (.ifCond .ne 10, 3) := by decide +kernel
theorem dX12_told_105 : decode cX12_told 105 = .ok (.aload_n 0, 1) := by decide +kernel
theorem dX12_told_106 : decode cX12_told 106 = .ok (.getfield 330, 3) := by decide +kernel
theorem dX12_told_109 : decode cX12_told 109 = .ok (.goto 43, 3) := by decide +kernel
theorem dX12_told_112 : decode cX12_told 112 = .ok (.iload_n 1, 1) := by decide +kernel
theorem dX12_told_113 : decode cX12_told 113 = .ok (.iconst 1, 1) := by decide +kernel
theorem dX12_told_114 : decode cX12_told 114 = .ok (.if_icmp .ne 10, 3) := by decide +kernel
theorem dX12_told_117 : decode cX12_told 117 = .ok (.aload_n 0, 1) := by decide +kernel
theorem dX12_told_118 : decode cX12_told 118 = .ok (.getfield 333, 3) := by decide +kernel
theorem dX12_told_121 : decode cX12_told 121 = .ok (.goto 31, 3) := by decide +kernel
theorem dX12_told_124 : decode cX12_told 124 = .ok (.iload_n 1, 1) := by decide +kernel
theorem dX12_told_125 : decode cX12_told 125 = .ok (.iconst 3, 1) := by decide +kernel
theorem dX12_told_126 : decode cX12_told 126 = .ok (.if_icmp .ne 10, 3) := by decide +kernel
theorem dX12_told_129 : decode cX12_told 129 = .ok (.aload_n 0, 1) := by decide +kernel
theorem dX12_told_130 : decode cX12_told 130 = .ok (.getfield 342, 3) := by decide +kernel
theorem dX12_told_133 : decode cX12_told 133 = .ok (.goto 19, 3) := by decide +kernel
theorem dX12_told_136 : decode cX12_told 136 = .ok (.iload_n 1, 1) := by decide +kernel
theorem dX12_told_137 : decode cX12_told 137 = .ok (.iconst 4, 1) := by decide +kernel
theorem dX12_told_138 : decode cX12_told 138 = .ok (.if_icmp .ne 10, 3) := by decide +kernel
theorem dX12_told_141 : decode cX12_told 141 = .ok (.aload_n 0, 1) := by decide +kernel
theorem dX12_told_142 : decode cX12_told 142 = .ok (.getfield 345, 3) := by decide +kernel
theorem dX12_told_145 : decode cX12_told 145 = .ok (.goto 7, 3) := by decide +kernel
theorem dX12_told_148 : decode cX12_told 148 = .ok (.aload_n 0, 1) := by decide +kernel
theorem dX12_told_149 : decode cX12_told 149 = .ok (.getfield 339, 3) := by decide +kernel
theorem dX12_told_152 : decode cX12_told 152 = .ok (.ireturn, 1) := by decide +kernel
theorem dX12_c1_0 : decode cX12_c1 0 = .ok (.aload_n 0, 1) := by decide +kernel
theorem dX12_c1_1 : decode cX12_c1 1 = .ok (.getfield 295, 3) := by decide +kernel
theorem dX12_c1_4 : decode cX12_c1 4 = .ok (.aload_n 0, 1) := by decide +kernel
theorem dX12_c1_5 : decode cX12_c1 5 = .ok (.getfield 810, 3) := by decide +kernel
theorem dX12_c1_8 : decode cX12_c1 8 = .ok (.iload_n 1, 1) := by decide +kernel
theorem dX12_c1_9 : decode cX12_c1 9 = .ok (.i2b, 1) := by decide +kernel
theorem dX12_c1_10 : decode cX12_c1 10 = .ok (.bastore, 1) := by decide +kernel
theorem dX12_c1_11 : decode cX12_c1 11 = .ok (.aload_n 0, 1) := by decide +kernel
theorem dX12_c1_12 : decode cX12_c1 12 = .ok (.dup, 1) := by decide +kernel
theorem dX12_c1_13 : decode cX12_c1 13 = .ok (.getfield 810, 3) := by decide +kernel
theorem dX12_c1_16 : decode cX12_c1 16 = .ok (.iconst 1, 1) := by decide +kernel
theorem dX12_c1_17 : decode cX12_c1 17 = .ok (.iadd, 1) := by decide +kernel
theorem dX12_c1_18 : decode cX12_c1 18 = .ok (.putfield 810, 3) := by decide +kernel
theorem dX12_c1_21 : decode cX12_c1 21 = .ok (.return_, 1) := by decide +kernel
theorem dX12_number_0 : decode cX12_number 0 = .ok (.iload_n 1, 1) := by decide +kernel
theorem dX12_number_1 : decode cX12_number 1 = .ok (.istore_n 2, 1) := by decide +kernel
theorem dX12_number_2 : decode cX12_number 2 = .ok (.iload_n 2, 1) := by decide +kernel
theorem dX12_number_3 : decode cX12_number 3 = .ok (.sipush 128, 3) := by decide +kernel
theorem dX12_number_6 : decode cX12_number 6 = .ok (.if_icmp .lt 23, 3) := by decide +kernel
theorem dX12_number_9 : decode cX12_number 9 = .ok (.aload_n 0, 1) := by decide +kernel
theorem dX12_number_10 : decode cX12_number 10 = .ok (.iload_n 2, 1) := by decide +kernel
theorem dX12_number_11 : decode cX12_number 11 = .ok (.bipush 127, 2) := by decide +kernel
theorem dX12_number_13 : decode cX12_number 13 = .ok (.iand, 1) := by decide +kernel
theorem dX12_number_14 : decode cX12_number 14 = .ok (.sipush 128, 3) := by decide +kernel
theorem dX12_number_17 : decode cX12_number 17 = .ok (.ior, 1) := by decide +kernel
theorem dX12_number_18 : decode cX12_number 18 = .ok (.invokevirtual 813, 3) := by decide +kernel
theorem dX12_number_21 : decode cX12_number 21 = .ok (.iload_n 2, 1) := by decide +kernel
theorem dX12_number_22 : decode cX12_number 22 = .ok (.bipush 7, 2) := by decide +kernel
theorem dX12_number_24 : decode cX12_number 24 = .ok (.ishr, 1) := by decide +kernel
theorem dX12_number_25 : decode cX12_number 25 = .ok (.istore_n 2, 1) := by decide +kernel
theorem dX12_number_26 : decode cX12_number 26 = .ok (.goto (-24), 3) := by decide +kernel
theorem dX12_number_29 : decode cX12_number 29 = .ok (.aload_n 0, 1) := by decide +kernel
theorem dX12_number_30 : decode cX12_number 30 = .ok (.iload_n 2, 1) := by decide +kernel
theorem dX12_number_31 : decode cX12_number 31 = .ok (.invokevirtual 813, 3) := by decide +kernel
theorem dX12_number_34 : decode cX12_number 34 = .ok (.return_, 1) := by decide +kernel
theorem dX12_isBefore_0 : decode cX12_isBefore 0 = .ok (.aload_n 0, 1) := by decide +kernel
theorem dX12_isBefore_1 : decode cX12_isBefore 1 = .ok (.getfield 298, 3) := by decide +kernel
theorem dX12_isBefore_4 : decode cX12_isBefore 4 = .ok (.iload_n 1, 1) := by decide +kernel
theorem dX12_isBefore_5 : decode cX12_isBefore 5 = .ok (.laload, 1) := by decide +kernel
theorem dX12_isBefore_6 : decode cX12_isBefore 6 = .ok (.aload_n 0, 1) := by decide +kernel
theorem dX12_isBefore_7 : decode cX12_isBefore 7 = .ok (.getfield 298, 3) := by decide +kernel
theorem dX12_isBefore_10 : decode cX12_isBefore 10 = .ok (.iload_n 2, 1) := by decide +kernel
theorem dX12_isBefore_11 : decode cX12_isBefore 11 = .ok (.laload, 1) := by decide +kernel
theorem dX12_isBefore_12 : decode cX12_isBefore 12 = .ok (.lcmp, 1) := by decide +kernel
theorem dX12_isBefore_13 : decode cX12_isBefore 13 = .ok (.ifCond .eq 25, 3) := by decide +kernel
theorem dX12_isBefore_16 : decode cX12_isBefore 16 = .ok (.aload_n 0, 1) := by decide +kernel
theorem dX12_isBefore_17 : decode cX12_isBefore 17 = .ok (.getfield 298, 3) := by decide +kernel
theorem dX12_isBefore_20 : decode cX12_isBefore 20 = .ok (.iload_n 1, 1) := by decide +kernel
theorem dX12_isBefore_21 : decode cX12_isBefore 21 = .ok (.laload, 1) := by decide +kernel
theorem dX12_isBefore_22 : decode cX12_isBefore 22 = .ok (.aload_n 0, 1) := by decide +kernel
theorem dX12_isBefore_23 : decode cX12_isBefore 23 = .ok (.getfield 298, 3) := by decide +kernel
theorem dX12_isBefore_26 : decode cX12_isBefore 26 = .ok (.iload_n 2, 1) := by decide +kernel
theorem dX12_isBefore_27 : decode cX12_isBefore 27 = .ok (.laload, 1) := by decide +kernel
theorem dX12_isBefore_28 : decode cX12_isBefore 28 = .ok (.lcmp, 1) := by decide +kernel
theorem dX12_isBefore_29 : decode cX12_isBefore 29 = .ok (.ifCond .ge 7, 3) := by decide +kernel
theorem dX12_isBefore_32 : decode cX12_isBefore 32 = .ok (.iconst 1, 1) := by decide +kernel
theorem dX12_isBefore_33 : decode cX12_isBefore 33 = .ok (.goto 4, 3) := by decide +kernel
theorem dX12_isBefore_36 : decode cX12_isBefore 36 = .ok (.iconst 0, 1) := by decide +kernel
theorem dX12_isBefore_37 : decode cX12_isBefore 37 = .ok (.ireturn, 1) := by decide +kernel
theorem dX12_isBefore_38 : decode cX12_isBefore 38 = .ok (.aload_n 0, 1) := by decide +kernel
theorem dX12_isBefore_39 : decode cX12_isBefore 39 = .ok (.getfield 301, 3) := by decide +kernel
theorem dX12_isBefore_42 : decode cX12_isBefore 42 = .ok (.iload_n 1, 1) := by decide +kernel
theorem dX12_isBefore_43 : decode cX12_isBefore 43 = .ok (.laload, 1) := by decide +kernel
theorem dX12_isBefore_44 : decode cX12_isBefore 44 = .ok (.aload_n 0, 1) := by decide +kernel
theorem dX12_isBefore_45 : decode cX12_isBefore 45 = .ok (.getfield 301, 3) := by decide +kernel
theorem dX12_isBefore_48 : decode cX12_isBefore 48 = .ok (.iload_n 2, 1) := by decide +kernel
theorem dX12_isBefore_49 : decode cX12_isBefore 49 = .ok (.laload, 1) := by decide +kernel
theorem dX12_isBefore_50 : decode cX12_isBefore 50 = .ok (.lcmp, 1) := by decide +kernel
theorem dX12_isBefore_51 : decode cX12_isBefore 51 = .ok (.ifCond .eq 27, 3) := by decide +kernel
theorem dX12_isBefore_54 : decode cX12_isBefore 54 = .ok (.aload_n 0, 1) := by decide +kernel
theorem dX12_isBefore_55 : decode cX12_isBefore 55 = .ok (.getfield 301, 3) := by decide +kernel
theorem dX12_isBefore_58 : decode cX12_isBefore 58 = .ok (.iload_n 1, 1) := by decide +kernel
theorem dX12_isBefore_59 : decode cX12_isBefore 59 = .ok (.laload, 1) := by decide +kernel
theorem dX12_isBefore_60 : decode cX12_isBefore 60 = .ok (.aload_n 0, 1) := by decide +kernel
theorem dX12_isBefore_61 : decode cX12_isBefore 61 = .ok (.getfield 301, 3) := by decide +kernel
theorem dX12_isBefore_64 : decode cX12_isBefore 64 = .ok (.iload_n 2, 1) := by decide +kernel
theorem dX12_isBefore_65 : decode cX12_isBefore 65 = .ok (.laload, 1) := by decide +kernel
theorem dX12_isBefore_66 : decode cX12_isBefore 66 = .ok (.lcmp, 1) := by decide +kernel
theorem dX12_isBefore_67 : decode cX12_isBefore 67 = .ok (.ifCond .ge 7, 3) := by decide +kernel
theorem dX12_isBefore_70 : decode cX12_isBefore 70 = .ok (.iconst 1, 1) := by decide +kernel
theorem dX12_isBefore_71 : decode cX12_isBefore 71 = .ok (.goto 17, 3) := by decide +kernel
theorem dX12_isBefore_74 : decode cX12_isBefore 74 = .ok (.iconst 0, 1) := by decide +kernel
theorem dX12_isBefore_75 : decode cX12_isBefore 75 = .ok (.goto 13, 3) := by decide +kernel
theorem dX12_isBefore_78 : decode cX12_isBefore 78 = .ok (.iload_n 1, 1) := by decide +kernel
theorem dX12_isBefore_79 : decode cX12_isBefore 79 = .ok (.iload_n 2, 1) := by decide +kernel
theorem dX12_isBefore_80 : decode cX12_isBefore 80 = .ok (.if_icmp .ge 7, 3) := by decide +kernel
theorem dX12_isBefore_83 : decode cX12_isBefore 83 = .ok (.iconst 1, 1) := by decide +kernel
theorem dX12_isBefore_84 : decode cX12_isBefore 84 = .ok (.goto 4, 3) := by decide +kernel
theorem dX12_isBefore_87 : decode cX12_isBefore 87 = .ok (.iconst 0, 1) := by decide +kernel
theorem dX12_isBefore_88 : decode cX12_isBefore 88 = .ok (.ireturn, 1) := by decide +kernel
theorem dX12_sort_0 : decode cX12_sort 0 = .ok (.iconst 0, 1) := by decide +kernel
theorem dX12_sort_1 : decode cX12_sort 1 = .ok (.istore_n 1, 1) := by decide +kernel
theorem dX12_sort_2 : decode cX12_sort 2 = .ok (.iload_n 1, 1) := by decide +kernel
theorem dX12_sort_3 : decode cX12_sort 3 = .ok (.aload_n 0, 1) := by decide +kernel
theorem dX12_sort_4 : decode cX12_sort 4 = .ok (.getfield 816, 3) := by decide +kernel
theorem dX12_sort_7 : decode cX12_sort 7 = .ok (.if_icmp .ge 16, 3) := by decide +kernel
theorem dX12_sort_10 : decode cX12_sort 10 = .ok (.aload_n 0, 1) := by decide +kernel
theorem dX12_sort_11 : decode cX12_sort 11 = .ok (.getfield 307, 3) := by decide +kernel
theorem dX12_sort_14 : decode cX12_sort 14 = .ok (.iload_n 1, 1) := by decide +kernel
theorem dX12_sort_15 : decode cX12_sort 15 = .ok (.iload_n 1, 1) := by decide +kernel
theorem dX12_sort_16 : decode cX12_sort 16 = .ok (.iastore, 1) := by decide +kernel
theorem dX12_sort_17 : decode cX12_sort 17 = .ok (.iinc 1 1, 3) := by decide +kernel
theorem dX12_sort_20 : decode cX12_sort 20 = .ok (.goto (-18), 3) := by decide +kernel
theorem dX12_sort_23 : decode cX12_sort 23 = .ok (.iconst 1, 1) := by decide +kernel
theorem dX12_sort_24 : decode cX12_sort 24 = .ok (.istore_n 1, 1) := by decide +kernel
theorem dX12_sort_25 : decode cX12_sort 25 = .ok (.iload_n 1, 1) := by decide +kernel
theorem dX12_sort_26 : decode cX12_sort 26 = .ok (.aload_n 0, 1) := by decide +kernel
theorem dX12_sort_27 : decode cX12_sort 27 = .ok (.getfield 816, 3) := by decide +kernel
theorem dX12_sort_30 : decode cX12_sort 30 = .ok (.if_icmp .ge 204, 3) := by decide +kernel
theorem dX12_sort_33 : decode cX12_sort 33 = .ok (.iconst 0, 1) := by decide +kernel
theorem dX12_sort_34 : decode cX12_sort 34 = .ok (.istore_n 2, 1) := by decide +kernel
theorem dX12_sort_35 : decode cX12_sort 35 = .ok (.iload_n 2, 1) := by decide +kernel
theorem dX12_sort_36 : decode cX12_sort 36 = .ok (.aload_n 0, 1) := by decide +kernel
theorem dX12_sort_37 : decode cX12_sort 37 = .ok (.getfield 816, 3) := by decide +kernel
theorem dX12_sort_40 : decode cX12_sort 40 = .ok (.if_icmp .ge 159, 3) := by decide +kernel
theorem dX12_sort_43 : decode cX12_sort 43 = .ok (.iload_n 2, 1) := by decide +kernel
theorem dX12_sort_44 : decode cX12_sort 44 = .ok (.iload_n 1, 1) := by decide +kernel
theorem dX12_sort_45 : decode cX12_sort 45 = .ok (.iadd, 1) := by decide +kernel
theorem dX12_sort_46 : decode cX12_sort 46 = .ok (.aload_n 0, 1) := by decide +kernel
theorem dX12_sort_47 : decode cX12_sort 47 = .ok (.getfield 816, 3) := by decide +kernel
theorem dX12_sort_50 : decode cX12_sort 50 = .ok (.invokestatic 437, 3) := by decide +kernel
theorem dX12_sort_53 : decode cX12_sort 53 = .ok (.istore_n 3, 1) := by decide +kernel
theorem dX12_sort_54 : decode cX12_sort 54 = .ok (.iload_n 2, 1) := by decide +kernel
theorem dX12_sort_55 : decode cX12_sort 55 = .ok (.iconst 2, 1) := by decide +kernel
theorem dX12_sort_56 : decode cX12_sort 56 = .ok (.iload_n 1, 1) := by decide +kernel
theorem dX12_sort_57 : decode cX12_sort 57 = .ok (.imul, 1) := by decide +kernel
theorem dX12_sort_58 : decode cX12_sort 58 = .ok (.iadd, 1) := by decide +kernel
theorem dX12_sort_59 : decode cX12_sort 59 = .ok (.aload_n 0, 1) := by decide +kernel
theorem dX12_sort_60 : decode cX12_sort 60 = .ok (.getfield 816, 3) := by decide +kernel
theorem dX12_sort_63 : decode cX12_sort 63 = .ok (.invokestatic 437, 3) := by decide +kernel
theorem dX12_sort_66 : decode cX12_sort 66 = .ok (.istore 4, 2) := by decide +kernel
theorem dX12_sort_68 : decode cX12_sort 68 = .ok (.iload_n 2, 1) := by decide +kernel
theorem dX12_sort_69 : decode cX12_sort 69 = .ok (.istore 5, 2) := by decide +kernel
theorem dX12_sort_71 : decode cX12_sort 71 = .ok (.iload_n 3, 1) := by decide +kernel
theorem dX12_sort_72 : decode cX12_sort 72 = .ok (.istore 6, 2) := by decide +kernel
theorem dX12_sort_74 : decode cX12_sort 74 = .ok (.iload_n 2, 1) := by decide +kernel
theorem dX12_sort_75 : decode cX12_sort 75 = .ok (.istore 7, 2) := by decide +kernel
theorem dX12_sort_77 : decode cX12_sort 77 = .ok (.iload 7, 2) := by decide +kernel
theorem dX12_sort_79 : decode cX12_sort 79 = .ok (.iload 4, 2) := by decide +kernel
theorem dX12_sort_81 : decode cX12_sort 81 = .ok (.if_icmp .ge 109, 3) := by decide +kernel
theorem dX12_sort_84 : decode cX12_sort 84 = .ok (.iload 6, 2) := by decide +kernel
theorem dX12_sort_86 : decode cX12_sort 86 = .ok (.iload 4, 2) := by decide +kernel
theorem dX12_sort_88 : decode cX12_sort 88 = .ok (.if_icmp .ge 30, 3) := by decide +kernel
theorem dX12_sort_91 : decode cX12_sort 91 = .ok (.iload 5, 2) := by decide +kernel
theorem dX12_sort_93 : decode cX12_sort 93 = .ok (.iload_n 3, 1) := by decide +kernel
theorem dX12_sort_94 : decode cX12_sort 94 = .ok (.if_icmp .ge 28, 3) := by decide +kernel
theorem dX12_sort_97 : decode cX12_sort 97 = .ok (.aload_n 0, 1) := by decide +kernel
theorem dX12_sort_98 : decode cX12_sort 98 = .ok (.aload_n 0, 1) := by decide +kernel
theorem dX12_sort_99 : decode cX12_sort 99 = .ok (.getfield 307, 3) := by decide +kernel
theorem dX12_sort_102 : decode cX12_sort 102 = .ok (.iload 5, 2) := by decide +kernel
theorem dX12_sort_104 : decode cX12_sort 104 = .ok (.iaload, 1) := by decide +kernel
theorem dX12_sort_105 : decode cX12_sort 105 = .ok (.aload_n 0, 1) := by decide +kernel
theorem dX12_sort_106 : decode cX12_sort 106 = .ok (.getfield 307, 3) := by decide +kernel
theorem dX12_sort_109 : decode cX12_sort 109 = .ok (.iload 6, 2) := by decide +kernel
theorem dX12_sort_111 : decode cX12_sort 111 = .ok (.iaload, 1) := by decide +kernel
theorem dX12_sort_112 : decode cX12_sort 112 = .ok (.invokevirtual 819, 3) := by decide +kernel
theorem dX12_sort_115 : decode cX12_sort 115 = .ok (.ifCond .eq 7, 3) := by decide +kernel
theorem dX12_sort_118 : decode cX12_sort 118 = .ok (.iconst 1, 1) := by decide +kernel
theorem dX12_sort_119 : decode cX12_sort 119 = .ok (.goto 4, 3) := by decide +kernel
theorem dX12_sort_122 : decode cX12_sort 122 = .ok (.iconst 0, 1) := by decide +kernel
theorem dX12_sort_123 : decode cX12_sort 123 = .ok (.istore 8, 2) := by decide +kernel
theorem dX12_sort_125 : decode cX12_sort 125 = .ok (.aload_n 0, 1) := by decide +kernel
theorem dX12_sort_126 : decode cX12_sort 126 = .ok (.getfield 310, 3) := by decide +kernel
theorem dX12_sort_129 : decode cX12_sort 129 = .ok (.iload 7, 2) := by decide +kernel
theorem dX12_sort_131 : decode cX12_sort 131 = .ok (.iload 8, 2) := by decide +kernel
theorem dX12_sort_133 : decode cX12_sort 133 = .ok (.ifCond .eq 13, 3) := by decide +kernel
theorem dX12_sort_136 : decode cX12_sort 136 = .ok (.aload_n 0, 1) := by decide +kernel
theorem dX12_sort_137 : decode cX12_sort 137 = .ok (.getfield 307, 3) := by decide +kernel
theorem dX12_sort_140 : decode cX12_sort 140 = .ok (.iload 5, 2) := by decide +kernel
theorem dX12_sort_142 : decode cX12_sort 142 = .ok (.iaload, 1) := by decide +kernel
theorem dX12_sort_143 : decode cX12_sort 143 = .ok (.goto 10, 3) := by decide +kernel
theorem dX12_sort_146 : decode cX12_sort 146 = .ok (.aload_n 0, 1) := by decide +kernel
theorem dX12_sort_147 : decode cX12_sort 147 = .ok (.getfield 307, 3) := by decide +kernel
theorem dX12_sort_150 : decode cX12_sort 150 = .ok (.iload 6, 2) := by decide +kernel
theorem dX12_sort_152 : decode cX12_sort 152 = .ok (.iaload, 1) := by decide +kernel
theorem dX12_sort_153 : decode cX12_sort 153 = .ok (.iastore, 1) := by decide +kernel
theorem dX12_sort_154 : decode cX12_sort 154 = .ok (.iload 5, 2) := by decide +kernel
theorem dX12_sort_156 : decode cX12_sort 156 = .ok (.iload 8, 2) := by decide +kernel
theorem dX12_sort_158 : decode cX12_sort 158 = .ok (.ifCond .eq 7, 3) := by decide +kernel
theorem dX12_sort_161 : decode cX12_sort 161 = .ok (.iconst 1, 1) := by decide +kernel
theorem dX12_sort_162 : decode cX12_sort 162 = .ok (.goto 4, 3) := by decide +kernel
theorem dX12_sort_165 : decode cX12_sort 165 = .ok (.iconst 0, 1) := by decide +kernel
theorem dX12_sort_166 : decode cX12_sort 166 = .ok (.iadd, 1) := by decide +kernel
theorem dX12_sort_167 : decode cX12_sort 167 = .ok (.istore 5, 2) := by decide +kernel
theorem dX12_sort_169 : decode cX12_sort 169 = .ok (.iload 6, 2) := by decide +kernel
theorem dX12_sort_171 : decode cX12_sort 171 = .ok (.iload 8, 2) := by decide +kernel
theorem dX12_sort_173 : decode cX12_sort 173 = .ok (.ifCond .eq 7, 3) := by decide +kernel
theorem dX12_sort_176 : decode cX12_sort 176 = .ok (.iconst 0, 1) := by decide +kernel
theorem dX12_sort_177 : decode cX12_sort 177 = .ok (.goto 4, 3) := by decide +kernel
theorem dX12_sort_180 : decode cX12_sort 180 = .ok (.iconst 1, 1) := by decide +kernel
theorem dX12_sort_181 : decode cX12_sort 181 = .ok (.iadd, 1) := by decide +kernel
theorem dX12_sort_182 : decode cX12_sort 182 = .ok (.istore 6, 2) := by decide +kernel
theorem dX12_sort_184 : decode cX12_sort 184 = .ok (.iinc 7 1, 3) := by decide +kernel
theorem dX12_sort_187 : decode cX12_sort 187 = .ok (.goto (-110), 3) := by decide +kernel
theorem dX12_sort_190 : decode cX12_sort 190 = .ok (.iload_n 2, 1) := by decide +kernel
theorem dX12_sort_191 : decode cX12_sort 191 = .ok (.iconst 2, 1) := by decide +kernel
theorem dX12_sort_192 : decode cX12_sort 192 = .ok (.iload_n 1, 1) := by decide +kernel
theorem dX12_sort_193 : decode cX12_sort 193 = .ok (.imul, 1) := by decide +kernel
theorem dX12_sort_194 : decode cX12_sort 194 = .ok (.iadd, 1) := by decide +kernel
theorem dX12_sort_195 : decode cX12_sort 195 = .ok (.istore_n 2, 1) := by decide +kernel
theorem dX12_sort_196 : decode cX12_sort 196 = .ok (.goto (-161), 3) := by decide +kernel
theorem dX12_sort_199 : decode cX12_sort 199 = .ok (.iconst 0, 1) := by decide +kernel
theorem dX12_sort_200 : decode cX12_sort 200 = .ok (.istore_n 2, 1) := by decide +kernel
theorem dX12_sort_201 : decode cX12_sort 201 = .ok (.iload_n 2, 1) := by decide +kernel
theorem dX12_sort_202 : decode cX12_sort 202 = .ok (.aload_n 0, 1) := by decide +kernel
theorem dX12_sort_203 : decode cX12_sort 203 = .ok (.getfield 816, 3) := by decide +kernel
theorem dX12_sort_206 : decode cX12_sort 206 = .ok (.if_icmp .ge 21, 3) := by decide +kernel
theorem dX12_sort_209 : decode cX12_sort 209 = .ok (.aload_n 0, 1) := by decide +kernel
theorem dX12_sort_210 : decode cX12_sort 210 = .ok (.getfield 307, 3) := by decide +kernel
theorem dX12_sort_213 : decode cX12_sort 213 = .ok (.iload_n 2, 1) := by decide +kernel
theorem dX12_sort_214 : decode cX12_sort 214 = .ok (.aload_n 0, 1) := by decide +kernel
theorem dX12_sort_215 : decode cX12_sort 215 = .ok (.getfield 310, 3) := by decide +kernel
theorem dX12_sort_218 : decode cX12_sort 218 = .ok (.iload_n 2, 1) := by decide +kernel
theorem dX12_sort_219 : decode cX12_sort 219 = .ok (.iaload, 1) := by decide +kernel
theorem dX12_sort_220 : decode cX12_sort 220 = .ok (.iastore, 1) := by decide +kernel
theorem dX12_sort_221 : decode cX12_sort 221 = .ok (.iinc 2 1, 3) := by decide +kernel
theorem dX12_sort_224 : decode cX12_sort 224 = .ok (.goto (-23), 3) := by decide +kernel
theorem dX12_sort_227 : decode cX12_sort 227 = .ok (.iload_n 1, 1) := by decide +kernel
theorem dX12_sort_228 : decode cX12_sort 228 = .ok (.iconst 2, 1) := by decide +kernel
theorem dX12_sort_229 : decode cX12_sort 229 = .ok (.imul, 1) := by decide +kernel
theorem dX12_sort_230 : decode cX12_sort 230 = .ok (.istore_n 1, 1) := by decide +kernel
theorem dX12_sort_231 : decode cX12_sort 231 = .ok (.goto (-206), 3) := by decide +kernel
theorem dX12_sort_234 : decode cX12_sort 234 = .ok (.return_, 1) := by decide +kernel
theorem dX12_octetOf_0 : decode cX12_octetOf 0 = .ok (.iload 4, 2) := by decide +kernel
theorem dX12_octetOf_2 : decode cX12_octetOf 2 = .ok (.bipush 8, 2) := by decide +kernel
theorem dX12_octetOf_4 : decode cX12_octetOf 4 = .ok (.if_icmp .ge 20, 3) := by decide +kernel
theorem dX12_octetOf_7 : decode cX12_octetOf 7 = .ok (.lload_n 0, 1) := by decide +kernel
theorem dX12_octetOf_8 : decode cX12_octetOf 8 = .ok (.bipush 8, 2) := by decide +kernel
theorem dX12_octetOf_10 : decode cX12_octetOf 10 = .ok (.bipush 7, 2) := by decide +kernel
theorem dX12_octetOf_12 : decode cX12_octetOf 12 = .ok (.iload 4, 2) := by decide +kernel
theorem dX12_octetOf_14 : decode cX12_octetOf 14 = .ok (.isub, 1) := by decide +kernel
theorem dX12_octetOf_15 : decode cX12_octetOf 15 = .ok (.imul, 1) := by decide +kernel
theorem dX12_octetOf_16 : decode cX12_octetOf 16 = .ok (.lshr, 1) := by decide +kernel
theorem dX12_octetOf_17 : decode cX12_octetOf 17 = .ok (.ldc2_w 775, 3) := by decide +kernel
theorem dX12_octetOf_20 : decode cX12_octetOf 20 = .ok (.land, 1) := by decide +kernel
theorem dX12_octetOf_21 : decode cX12_octetOf 21 = .ok (.goto 17, 3) := by decide +kernel
theorem dX12_octetOf_24 : decode cX12_octetOf 24 = .ok (.lload_n 2, 1) := by decide +kernel
theorem dX12_octetOf_25 : decode cX12_octetOf 25 = .ok (.bipush 8, 2) := by decide +kernel
theorem dX12_octetOf_27 : decode cX12_octetOf 27 = .ok (.bipush 11, 2) := by decide +kernel
theorem dX12_octetOf_29 : decode cX12_octetOf 29 = .ok (.iload 4, 2) := by decide +kernel
theorem dX12_octetOf_31 : decode cX12_octetOf 31 = .ok (.isub, 1) := by decide +kernel
theorem dX12_octetOf_32 : decode cX12_octetOf 32 = .ok (.imul, 1) := by decide +kernel
theorem dX12_octetOf_33 : decode cX12_octetOf 33 = .ok (.lshr, 1) := by decide +kernel
theorem dX12_octetOf_34 : decode cX12_octetOf 34 = .ok (.ldc2_w 775, 3) := by decide +kernel
theorem dX12_octetOf_37 : decode cX12_octetOf 37 = .ok (.land, 1) := by decide +kernel
theorem dX12_octetOf_38 : decode cX12_octetOf 38 = .ok (.l2i, 1) := by decide +kernel
theorem dX12_octetOf_39 : decode cX12_octetOf 39 = .ok (.ireturn, 1) := by decide +kernel
theorem dX12_sizeOf_0 : decode cX12_sizeOf 0 = .ok (.iconst 0, 1) := by decide +kernel
theorem dX12_sizeOf_1 : decode cX12_sizeOf 1 = .ok (.istore 4, 2) := by decide +kernel
theorem dX12_sizeOf_3 : decode cX12_sizeOf 3 = .ok (.iload 4, 2) := by decide +kernel
theorem dX12_sizeOf_5 : decode cX12_sizeOf 5 = .ok (.bipush 12, 2) := by decide +kernel
theorem dX12_sizeOf_7 : decode cX12_sizeOf 7 = .ok (.if_icmp .ge 19, 3) := by decide +kernel
theorem dX12_sizeOf_10 : decode cX12_sizeOf 10 = .ok (.lload_n 0, 1) := by decide +kernel
theorem dX12_sizeOf_11 : decode cX12_sizeOf 11 = .ok (.lload_n 2, 1) := by decide +kernel
theorem dX12_sizeOf_12 : decode cX12_sizeOf 12 = .ok (.iload 4, 2) := by decide +kernel
theorem dX12_sizeOf_14 : decode cX12_sizeOf 14 = .ok (.invokestatic 822, 3) := by decide +kernel
theorem dX12_sizeOf_17 : decode cX12_sizeOf 17 = .ok (.ifCond .eq 9, 3) := by decide +kernel
theorem dX12_sizeOf_20 : decode cX12_sizeOf 20 = .ok (.iinc 4 1, 3) := by decide +kernel
theorem dX12_sizeOf_23 : decode cX12_sizeOf 23 = .ok (.goto (-20), 3) := by decide +kernel
theorem dX12_sizeOf_26 : decode cX12_sizeOf 26 = .ok (.iload 4, 2) := by decide +kernel
theorem dX12_sizeOf_28 : decode cX12_sizeOf 28 = .ok (.ireturn, 1) := by decide +kernel
theorem dX12_encode_0 : decode cX12_encode 0 = .ok (.aload_n 0, 1) := by decide +kernel
theorem dX12_encode_1 : decode cX12_encode 1 = .ok (.iconst 0, 1) := by decide +kernel
theorem dX12_encode_2 : decode cX12_encode 2 = .ok (.putfield 810, 3) := by decide +kernel
theorem dX12_encode_5 : decode cX12_encode 5 = .ok (.aload_n 0, 1) := by decide +kernel
theorem dX12_encode_6 : decode cX12_encode 6 = .ok (.iconst 0, 1) := by decide +kernel
theorem dX12_encode_7 : decode cX12_encode 7 = .ok (.putfield 816, 3) := by decide +kernel
theorem dX12_encode_10 : decode cX12_encode 10 = .ok (.aload_n 0, 1) := by decide +kernel
theorem dX12_encode_11 : decode cX12_encode 11 = .ok (.aload_n 0, 1) := by decide +kernel
theorem dX12_encode_12 : decode cX12_encode 12 = .ok (.getfield 197, 3) := by decide +kernel
theorem dX12_encode_15 : decode cX12_encode 15 = .ok (.iload_n 1, 1) := by decide +kernel
theorem dX12_encode_16 : decode cX12_encode 16 = .ok (.iaload, 1) := by decide +kernel
theorem dX12_encode_17 : decode cX12_encode 17 = .ok (.invokevirtual 826, 3) := by decide +kernel
theorem dX12_encode_20 : decode cX12_encode 20 = .ok (.iconst 0, 1) := by decide +kernel
theorem dX12_encode_21 : decode cX12_encode 21 = .ok (.istore_n 2, 1) := by decide +kernel
theorem dX12_encode_22 : decode cX12_encode 22 = .ok (.iconst 0, 1) := by decide +kernel
theorem dX12_encode_23 : decode cX12_encode 23 = .ok (.istore_n 3, 1) := by decide +kernel
theorem dX12_encode_24 : decode cX12_encode 24 = .ok (.iload_n 3, 1) := by decide +kernel
theorem dX12_encode_25 : decode cX12_encode 25 = .ok (.aload_n 0, 1) := by decide +kernel
theorem dX12_encode_26 : decode cX12_encode 26 = .ok (.getfield 197, 3) := by decide +kernel
theorem dX12_encode_29 : decode cX12_encode 29 = .ok (.iload_n 1, 1) := by decide +kernel
theorem dX12_encode_30 : decode cX12_encode 30 = .ok (.iaload, 1) := by decide +kernel
theorem dX12_encode_31 : decode cX12_encode 31 = .ok (.if_icmp .ge 137, 3) := by decide +kernel
theorem dX12_encode_34 : decode cX12_encode 34 = .ok (.aload_n 0, 1) := by decide +kernel
theorem dX12_encode_35 : decode cX12_encode 35 = .ok (.getfield 200, 3) := by decide +kernel
theorem dX12_encode_38 : decode cX12_encode 38 = .ok (.bipush 100, 2) := by decide +kernel
theorem dX12_encode_40 : decode cX12_encode 40 = .ok (.iload_n 1, 1) := by decide +kernel
theorem dX12_encode_41 : decode cX12_encode 41 = .ok (.imul, 1) := by decide +kernel
theorem dX12_encode_42 : decode cX12_encode 42 = .ok (.iload_n 3, 1) := by decide +kernel
theorem dX12_encode_43 : decode cX12_encode 43 = .ok (.iadd, 1) := by decide +kernel
theorem dX12_encode_44 : decode cX12_encode 44 = .ok (.iaload, 1) := by decide +kernel
theorem dX12_encode_45 : decode cX12_encode 45 = .ok (.istore 4, 2) := by decide +kernel
theorem dX12_encode_47 : decode cX12_encode 47 = .ok (.aload_n 0, 1) := by decide +kernel
theorem dX12_encode_48 : decode cX12_encode 48 = .ok (.iload 4, 2) := by decide +kernel
theorem dX12_encode_50 : decode cX12_encode 50 = .ok (.iload_n 2, 1) := by decide +kernel
theorem dX12_encode_51 : decode cX12_encode 51 = .ok (.isub, 1) := by decide +kernel
theorem dX12_encode_52 : decode cX12_encode 52 = .ok (.invokevirtual 826, 3) := by decide +kernel
theorem dX12_encode_55 : decode cX12_encode 55 = .ok (.iload 4, 2) := by decide +kernel
theorem dX12_encode_57 : decode cX12_encode 57 = .ok (.istore_n 2, 1) := by decide +kernel
theorem dX12_encode_58 : decode cX12_encode 58 = .ok (.aload_n 0, 1) := by decide +kernel
theorem dX12_encode_59 : decode cX12_encode 59 = .ok (.aload_n 0, 1) := by decide +kernel
theorem dX12_encode_60 : decode cX12_encode 60 = .ok (.getfield 203, 3) := by decide +kernel
theorem dX12_encode_63 : decode cX12_encode 63 = .ok (.bipush 100, 2) := by decide +kernel
theorem dX12_encode_65 : decode cX12_encode 65 = .ok (.iload_n 1, 1) := by decide +kernel
theorem dX12_encode_66 : decode cX12_encode 66 = .ok (.imul, 1) := by decide +kernel
theorem dX12_encode_67 : decode cX12_encode 67 = .ok (.iload_n 3, 1) := by decide +kernel
theorem dX12_encode_68 : decode cX12_encode 68 = .ok (.iadd, 1) := by decide +kernel
theorem dX12_encode_69 : decode cX12_encode 69 = .ok (.iaload, 1) := by decide +kernel
theorem dX12_encode_70 : decode cX12_encode 70 = .ok (.invokevirtual 580, 3) := by decide +kernel
theorem dX12_encode_73 : decode cX12_encode 73 = .ok (.aload_n 0, 1) := by decide +kernel
theorem dX12_encode_74 : decode cX12_encode 74 = .ok (.aload_n 0, 1) := by decide +kernel
theorem dX12_encode_75 : decode cX12_encode 75 = .ok (.getfield 518, 3) := by decide +kernel
theorem dX12_encode_78 : decode cX12_encode 78 = .ok (.invokevirtual 826, 3) := by decide +kernel
theorem dX12_encode_81 : decode cX12_encode 81 = .ok (.iconst 0, 1) := by decide +kernel
theorem dX12_encode_82 : decode cX12_encode 82 = .ok (.istore 5, 2) := by decide +kernel
theorem dX12_encode_84 : decode cX12_encode 84 = .ok (.iload 5, 2) := by decide +kernel
theorem dX12_encode_86 : decode cX12_encode 86 = .ok (.aload_n 0, 1) := by decide +kernel
theorem dX12_encode_87 : decode cX12_encode 87 = .ok (.getfield 518, 3) := by decide +kernel
theorem dX12_encode_90 : decode cX12_encode 90 = .ok (.if_icmp .ge 72, 3) := by decide +kernel
theorem dX12_encode_93 : decode cX12_encode 93 = .ok (.aload_n 0, 1) := by decide +kernel
theorem dX12_encode_94 : decode cX12_encode 94 = .ok (.getfield 298, 3) := by decide +kernel
theorem dX12_encode_97 : decode cX12_encode 97 = .ok (.aload_n 0, 1) := by decide +kernel
theorem dX12_encode_98 : decode cX12_encode 98 = .ok (.getfield 816, 3) := by decide +kernel
theorem dX12_encode_101 : decode cX12_encode 101 = .ok (.aload_n 0, 1) := by decide +kernel
theorem dX12_encode_102 : decode cX12_encode 102 = .ok (.getfield 252, 3) := by decide +kernel
theorem dX12_encode_105 : decode cX12_encode 105 = .ok (.iload 5, 2) := by decide +kernel
theorem dX12_encode_107 : decode cX12_encode 107 = .ok (.laload, 1) := by decide +kernel
theorem dX12_encode_108 : decode cX12_encode 108 = .ok (.lastore, 1) := by decide +kernel
theorem dX12_encode_109 : decode cX12_encode 109 = .ok (.aload_n 0, 1) := by decide +kernel
theorem dX12_encode_110 : decode cX12_encode 110 = .ok (.getfield 301, 3) := by decide +kernel
theorem dX12_encode_113 : decode cX12_encode 113 = .ok (.aload_n 0, 1) := by decide +kernel
theorem dX12_encode_114 : decode cX12_encode 114 = .ok (.getfield 816, 3) := by decide +kernel
theorem dX12_encode_117 : decode cX12_encode 117 = .ok (.aload_n 0, 1) := by decide +kernel
theorem dX12_encode_118 : decode cX12_encode 118 = .ok (.getfield 256, 3) := by decide +kernel
theorem dX12_encode_121 : decode cX12_encode 121 = .ok (.iload 5, 2) := by decide +kernel
theorem dX12_encode_123 : decode cX12_encode 123 = .ok (.laload, 1) := by decide +kernel
theorem dX12_encode_124 : decode cX12_encode 124 = .ok (.lastore, 1) := by decide +kernel
theorem dX12_encode_125 : decode cX12_encode 125 = .ok (.aload_n 0, 1) := by decide +kernel
theorem dX12_encode_126 : decode cX12_encode 126 = .ok (.getfield 304, 3) := by decide +kernel
theorem dX12_encode_129 : decode cX12_encode 129 = .ok (.aload_n 0, 1) := by decide +kernel
theorem dX12_encode_130 : decode cX12_encode 130 = .ok (.getfield 816, 3) := by decide +kernel
theorem dX12_encode_133 : decode cX12_encode 133 = .ok (.bipush 64, 2) := by decide +kernel
theorem dX12_encode_135 : decode cX12_encode 135 = .ok (.iload_n 3, 1) := by decide +kernel
theorem dX12_encode_136 : decode cX12_encode 136 = .ok (.imul, 1) := by decide +kernel
theorem dX12_encode_137 : decode cX12_encode 137 = .ok (.aload_n 0, 1) := by decide +kernel
theorem dX12_encode_138 : decode cX12_encode 138 = .ok (.getfield 259, 3) := by decide +kernel
theorem dX12_encode_141 : decode cX12_encode 141 = .ok (.iload 5, 2) := by decide +kernel
theorem dX12_encode_143 : decode cX12_encode 143 = .ok (.iaload, 1) := by decide +kernel
theorem dX12_encode_144 : decode cX12_encode 144 = .ok (.iadd, 1) := by decide +kernel
theorem dX12_encode_145 : decode cX12_encode 145 = .ok (.iastore, 1) := by decide +kernel
theorem dX12_encode_146 : decode cX12_encode 146 = .ok (.aload_n 0, 1) := by decide +kernel
theorem dX12_encode_147 : decode cX12_encode 147 = .ok (.dup, 1) := by decide +kernel
theorem dX12_encode_148 : decode cX12_encode 148 = .ok (.getfield 816, 3) := by decide +kernel
theorem dX12_encode_151 : decode cX12_encode 151 = .ok (.iconst 1, 1) := by decide +kernel
theorem dX12_encode_152 : decode cX12_encode 152 = .ok (.iadd, 1) := by decide +kernel
theorem dX12_encode_153 : decode cX12_encode 153 = .ok (.putfield 816, 3) := by decide +kernel
theorem dX12_encode_156 : decode cX12_encode 156 = .ok (.iinc 5 1, 3) := by decide +kernel
theorem dX12_encode_159 : decode cX12_encode 159 = .ok (.goto (-75), 3) := by decide +kernel
theorem dX12_encode_162 : decode cX12_encode 162 = .ok (.iinc 3 1, 3) := by decide +kernel
theorem dX12_encode_165 : decode cX12_encode 165 = .ok (.goto (-141), 3) := by decide +kernel
theorem dX12_encode_168 : decode cX12_encode 168 = .ok (.aload_n 0, 1) := by decide +kernel
theorem dX12_encode_169 : decode cX12_encode 169 = .ok (.invokevirtual 829, 3) := by decide +kernel
theorem dX12_encode_172 : decode cX12_encode 172 = .ok (.iconst 0, 1) := by decide +kernel
theorem dX12_encode_173 : decode cX12_encode 173 = .ok (.istore_n 3, 1) := by decide +kernel
theorem dX12_encode_174 : decode cX12_encode 174 = .ok (.iconst 0, 1) := by decide +kernel
theorem dX12_encode_175 : decode cX12_encode 175 = .ok (.istore 4, 2) := by decide +kernel
theorem dX12_encode_177 : decode cX12_encode 177 = .ok (.iload 4, 2) := by decide +kernel
theorem dX12_encode_179 : decode cX12_encode 179 = .ok (.aload_n 0, 1) := by decide +kernel
theorem dX12_encode_180 : decode cX12_encode 180 = .ok (.getfield 816, 3) := by decide +kernel
theorem dX12_encode_183 : decode cX12_encode 183 = .ok (.if_icmp .ge 45, 3) := by decide +kernel
theorem dX12_encode_186 : decode cX12_encode 186 = .ok (.iload_n 3, 1) := by decide +kernel
theorem dX12_encode_187 : decode cX12_encode 187 = .ok (.iload 4, 2) := by decide +kernel
theorem dX12_encode_189 : decode cX12_encode 189 = .ok (.ifCond .eq 26, 3) := by decide +kernel
theorem dX12_encode_192 : decode cX12_encode 192 = .ok (.aload_n 0, 1) := by decide +kernel
theorem dX12_encode_193 : decode cX12_encode 193 = .ok (.aload_n 0, 1) := by decide +kernel
theorem dX12_encode_194 : decode cX12_encode 194 = .ok (.getfield 307, 3) := by decide +kernel
theorem dX12_encode_197 : decode cX12_encode 197 = .ok (.iload 4, 2) := by decide +kernel
theorem dX12_encode_199 : decode cX12_encode 199 = .ok (.iaload, 1) := by decide +kernel
theorem dX12_encode_200 : decode cX12_encode 200 = .ok (.aload_n 0, 1) := by decide +kernel
theorem dX12_encode_201 : decode cX12_encode 201 = .ok (.getfield 307, 3) := by decide +kernel
theorem dX12_encode_204 : decode cX12_encode 204 = .ok (.iload 4, 2) := by decide +kernel
theorem dX12_encode_206 : decode cX12_encode 206 = .ok (.iconst 1, 1) := by decide +kernel
theorem dX12_encode_207 : decode cX12_encode 207 = .ok (.isub, 1) := by decide +kernel
theorem dX12_encode_208 : decode cX12_encode 208 = .ok (.iaload, 1) := by decide +kernel
theorem dX12_encode_209 : decode cX12_encode 209 = .ok (.invokevirtual 832, 3) := by decide +kernel
theorem dX12_encode_212 : decode cX12_encode 212 = .ok (.ifCond .ne 7, 3) := by decide +kernel
theorem dX12_encode_215 : decode cX12_encode 215 = .ok (.iconst 1, 1) := by decide +kernel
theorem dX12_encode_216 : decode cX12_encode 216 = .ok (.goto 4, 3) := by decide +kernel
theorem dX12_encode_219 : decode cX12_encode 219 = .ok (.iconst 0, 1) := by decide +kernel
theorem dX12_encode_220 : decode cX12_encode 220 = .ok (.iadd, 1) := by decide +kernel
theorem dX12_encode_221 : decode cX12_encode 221 = .ok (.istore_n 3, 1) := by decide +kernel
theorem dX12_encode_222 : decode cX12_encode 222 = .ok (.iinc 4 1, 3) := by decide +kernel
theorem dX12_encode_225 : decode cX12_encode 225 = .ok (.goto (-48), 3) := by decide +kernel
theorem dX12_encode_228 : decode cX12_encode 228 = .ok (.aload_n 0, 1) := by decide +kernel
theorem dX12_encode_229 : decode cX12_encode 229 = .ok (.iload_n 3, 1) := by decide +kernel
theorem dX12_encode_230 : decode cX12_encode 230 = .ok (.invokevirtual 826, 3) := by decide +kernel
theorem dX12_encode_233 : decode cX12_encode 233 = .ok (.iconst 0, 1) := by decide +kernel
theorem dX12_encode_234 : decode cX12_encode 234 = .ok (.istore 4, 2) := by decide +kernel
theorem dX12_encode_236 : decode cX12_encode 236 = .ok (.iconst (-1), 1) := by decide +kernel
theorem dX12_encode_237 : decode cX12_encode 237 = .ok (.istore 5, 2) := by decide +kernel
theorem dX12_encode_239 : decode cX12_encode 239 = .ok (.iload 4, 2) := by decide +kernel
theorem dX12_encode_241 : decode cX12_encode 241 = .ok (.aload_n 0, 1) := by decide +kernel
theorem dX12_encode_242 : decode cX12_encode 242 = .ok (.getfield 816, 3) := by decide +kernel
theorem dX12_encode_245 : decode cX12_encode 245 = .ok (.if_icmp .ge 80, 3) := by decide +kernel
theorem dX12_encode_248 : decode cX12_encode 248 = .ok (.iload 4, 2) := by decide +kernel
theorem dX12_encode_250 : decode cX12_encode 250 = .ok (.istore 6, 2) := by decide +kernel
theorem dX12_encode_252 : decode cX12_encode 252 = .ok (.iload 6, 2) := by decide +kernel
theorem dX12_encode_254 : decode cX12_encode 254 = .ok (.aload_n 0, 1) := by decide +kernel
theorem dX12_encode_255 : decode cX12_encode 255 = .ok (.getfield 816, 3) := by decide +kernel
theorem dX12_encode_258 : decode cX12_encode 258 = .ok (.if_icmp .ge 30, 3) := by decide +kernel
theorem dX12_encode_261 : decode cX12_encode 261 = .ok (.aload_n 0, 1) := by decide +kernel
theorem dX12_encode_262 : decode cX12_encode 262 = .ok (.aload_n 0, 1) := by decide +kernel
theorem dX12_encode_263 : decode cX12_encode 263 = .ok (.getfield 307, 3) := by decide +kernel
theorem dX12_encode_266 : decode cX12_encode 266 = .ok (.iload 4, 2) := by decide +kernel
theorem dX12_encode_268 : decode cX12_encode 268 = .ok (.iaload, 1) := by decide +kernel
theorem dX12_encode_269 : decode cX12_encode 269 = .ok (.aload_n 0, 1) := by decide +kernel
theorem dX12_encode_270 : decode cX12_encode 270 = .ok (.getfield 307, 3) := by decide +kernel
theorem dX12_encode_273 : decode cX12_encode 273 = .ok (.iload 6, 2) := by decide +kernel
theorem dX12_encode_275 : decode cX12_encode 275 = .ok (.iaload, 1) := by decide +kernel
theorem dX12_encode_276 : decode cX12_encode 276 = .ok (.invokevirtual 832, 3) := by decide +kernel
theorem dX12_encode_279 : decode cX12_encode 279 = .ok (.ifCond .eq 9, 3) := by decide +kernel
theorem dX12_encode_282 : decode cX12_encode 282 = .ok (.iinc 6 1, 3) := by decide +kernel
theorem dX12_encode_285 : decode cX12_encode 285 = .ok (.goto (-33), 3) := by decide +kernel
theorem dX12_encode_288 : decode cX12_encode 288 = .ok (.aload_n 0, 1) := by decide +kernel
theorem dX12_encode_289 : decode cX12_encode 289 = .ok (.aload_n 0, 1) := by decide +kernel
theorem dX12_encode_290 : decode cX12_encode 290 = .ok (.getfield 307, 3) := by decide +kernel
theorem dX12_encode_293 : decode cX12_encode 293 = .ok (.iload 4, 2) := by decide +kernel
theorem dX12_encode_295 : decode cX12_encode 295 = .ok (.iaload, 1) := by decide +kernel
theorem dX12_encode_296 : decode cX12_encode 296 = .ok (.iload 5, 2) := by decide +kernel
theorem dX12_encode_298 : decode cX12_encode 298 = .ok (.invokevirtual 835, 3) := by decide +kernel
theorem dX12_encode_301 : decode cX12_encode 301 = .ok (.aload_n 0, 1) := by decide +kernel
theorem dX12_encode_302 : decode cX12_encode 302 = .ok (.iload 4, 2) := by decide +kernel
theorem dX12_encode_304 : decode cX12_encode 304 = .ok (.iload 6, 2) := by decide +kernel
theorem dX12_encode_306 : decode cX12_encode 306 = .ok (.invokevirtual 838, 3) := by decide +kernel
theorem dX12_encode_309 : decode cX12_encode 309 = .ok (.aload_n 0, 1) := by decide +kernel
theorem dX12_encode_310 : decode cX12_encode 310 = .ok (.getfield 307, 3) := by decide +kernel
theorem dX12_encode_313 : decode cX12_encode 313 = .ok (.iload 4, 2) := by decide +kernel
theorem dX12_encode_315 : decode cX12_encode 315 = .ok (.iaload, 1) := by decide +kernel
theorem dX12_encode_316 : decode cX12_encode 316 = .ok (.istore 5, 2) := by decide +kernel
theorem dX12_encode_318 : decode cX12_encode 318 = .ok (.iload 6, 2) := by decide +kernel
theorem dX12_encode_320 : decode cX12_encode 320 = .ok (.istore 4, 2) := by decide +kernel
theorem dX12_encode_322 : decode cX12_encode 322 = .ok (.goto (-83), 3) := by decide +kernel
theorem dX12_encode_325 : decode cX12_encode 325 = .ok (.return_, 1) := by decide +kernel
theorem dX12_sameWord_0 : decode cX12_sameWord 0 = .ok (.aload_n 0, 1) := by decide +kernel
theorem dX12_sameWord_1 : decode cX12_sameWord 1 = .ok (.getfield 298, 3) := by decide +kernel
theorem dX12_sameWord_4 : decode cX12_sameWord 4 = .ok (.iload_n 1, 1) := by decide +kernel
theorem dX12_sameWord_5 : decode cX12_sameWord 5 = .ok (.laload, 1) := by decide +kernel
theorem dX12_sameWord_6 : decode cX12_sameWord 6 = .ok (.aload_n 0, 1) := by decide +kernel
theorem dX12_sameWord_7 : decode cX12_sameWord 7 = .ok (.getfield 298, 3) := by decide +kernel
theorem dX12_sameWord_10 : decode cX12_sameWord 10 = .ok (.iload_n 2, 1) := by decide +kernel
theorem dX12_sameWord_11 : decode cX12_sameWord 11 = .ok (.laload, 1) := by decide +kernel
theorem dX12_sameWord_12 : decode cX12_sameWord 12 = .ok (.lcmp, 1) := by decide +kernel
theorem dX12_sameWord_13 : decode cX12_sameWord 13 = .ok (.ifCond .ne 23, 3) := by decide +kernel
theorem dX12_sameWord_16 : decode cX12_sameWord 16 = .ok (.aload_n 0, 1) := by decide +kernel
theorem dX12_sameWord_17 : decode cX12_sameWord 17 = .ok (.getfield 301, 3) := by decide +kernel
theorem dX12_sameWord_20 : decode cX12_sameWord 20 = .ok (.iload_n 1, 1) := by decide +kernel
theorem dX12_sameWord_21 : decode cX12_sameWord 21 = .ok (.laload, 1) := by decide +kernel
theorem dX12_sameWord_22 : decode cX12_sameWord 22 = .ok (.aload_n 0, 1) := by decide +kernel
theorem dX12_sameWord_23 : decode cX12_sameWord 23 = .ok (.getfield 301, 3) := by decide +kernel
theorem dX12_sameWord_26 : decode cX12_sameWord 26 = .ok (.iload_n 2, 1) := by decide +kernel
theorem dX12_sameWord_27 : decode cX12_sameWord 27 = .ok (.laload, 1) := by decide +kernel
theorem dX12_sameWord_28 : decode cX12_sameWord 28 = .ok (.lcmp, 1) := by decide +kernel
theorem dX12_sameWord_29 : decode cX12_sameWord 29 = .ok (.ifCond .ne 7, 3) := by decide +kernel
theorem dX12_sameWord_32 : decode cX12_sameWord 32 = .ok (.iconst 1, 1) := by decide +kernel
theorem dX12_sameWord_33 : decode cX12_sameWord 33 = .ok (.goto 4, 3) := by decide +kernel
theorem dX12_sameWord_36 : decode cX12_sameWord 36 = .ok (.iconst 0, 1) := by decide +kernel
theorem dX12_sameWord_37 : decode cX12_sameWord 37 = .ok (.ireturn, 1) := by decide +kernel
theorem dX12_encodeWord_0 : decode cX12_encodeWord 0 = .ok (.aload_n 0, 1) := by decide +kernel
theorem dX12_encodeWord_1 : decode cX12_encodeWord 1 = .ok (.getfield 298, 3) := by decide +kernel
theorem dX12_encodeWord_4 : decode cX12_encodeWord 4 = .ok (.iload_n 1, 1) := by decide +kernel
theorem dX12_encodeWord_5 : decode cX12_encodeWord 5 = .ok (.laload, 1) := by decide +kernel
theorem dX12_encodeWord_6 : decode cX12_encodeWord 6 = .ok (.aload_n 0, 1) := by decide +kernel
theorem dX12_encodeWord_7 : decode cX12_encodeWord 7 = .ok (.getfield 301, 3) := by decide +kernel
theorem dX12_encodeWord_10 : decode cX12_encodeWord 10 = .ok (.iload_n 1, 1) := by decide +kernel
theorem dX12_encodeWord_11 : decode cX12_encodeWord 11 = .ok (.laload, 1) := by decide +kernel
theorem dX12_encodeWord_12 : decode cX12_encodeWord 12 = .ok (.invokestatic 841, 3) := by decide +kernel
theorem dX12_encodeWord_15 : decode cX12_encodeWord 15 = .ok (.istore_n 3, 1) := by decide +kernel
theorem dX12_encodeWord_16 : decode cX12_encodeWord 16 = .ok (.iconst 0, 1) := by decide +kernel
theorem dX12_encodeWord_17 : decode cX12_encodeWord 17 = .ok (.istore 4, 2) := by decide +kernel
theorem dX12_encodeWord_19 : decode cX12_encodeWord 19 = .ok (.iload_n 2, 1) := by decide +kernel
theorem dX12_encodeWord_20 : decode cX12_encodeWord 20 = .ok (.iconst (-1), 1) := by decide +kernel
theorem dX12_encodeWord_21 : decode cX12_encodeWord 21 = .ok (.if_icmp .eq 52, 3) := by decide +kernel
theorem dX12_encodeWord_24 : decode cX12_encodeWord 24 = .ok (.iload 4, 2) := by decide +kernel
theorem dX12_encodeWord_26 : decode cX12_encodeWord 26 = .ok (.iload_n 3, 1) := by decide +kernel
theorem dX12_encodeWord_27 : decode cX12_encodeWord 27 = .ok (.if_icmp .ge 46, 3) := by decide +kernel
theorem dX12_encodeWord_30 : decode cX12_encodeWord 30 = .ok (.aload_n 0, 1) := by decide +kernel
theorem dX12_encodeWord_31 : decode cX12_encodeWord 31 = .ok (.getfield 298, 3) := by decide +kernel
theorem dX12_encodeWord_34 : decode cX12_encodeWord 34 = .ok (.iload_n 1, 1) := by decide +kernel
theorem dX12_encodeWord_35 : decode cX12_encodeWord 35 = .ok (.laload, 1) := by decide +kernel
theorem dX12_encodeWord_36 : decode cX12_encodeWord 36 = .ok (.aload_n 0, 1) := by decide +kernel
theorem dX12_encodeWord_37 : decode cX12_encodeWord 37 = .ok (.getfield 301, 3) := by decide +kernel
theorem dX12_encodeWord_40 : decode cX12_encodeWord 40 = .ok (.iload_n 1, 1) := by decide +kernel
theorem dX12_encodeWord_41 : decode cX12_encodeWord 41 = .ok (.laload, 1) := by decide +kernel
theorem dX12_encodeWord_42 : decode cX12_encodeWord 42 = .ok (.iload 4, 2) := by decide +kernel
theorem dX12_encodeWord_44 : decode cX12_encodeWord 44 = .ok (.invokestatic 822, 3) := by decide +kernel
theorem dX12_encodeWord_47 : decode cX12_encodeWord 47 = .ok (.aload_n 0, 1) := by decide +kernel
theorem dX12_encodeWord_48 : decode cX12_encodeWord 48 = .ok (.getfield 298, 3) := by decide +kernel
theorem dX12_encodeWord_51 : decode cX12_encodeWord 51 = .ok (.iload_n 2, 1) := by decide +kernel
theorem dX12_encodeWord_52 : decode cX12_encodeWord 52 = .ok (.laload, 1) := by decide +kernel
theorem dX12_encodeWord_53 : decode cX12_encodeWord 53 = .ok (.aload_n 0, 1) := by decide +kernel
theorem dX12_encodeWord_54 : decode cX12_encodeWord 54 = .ok (.getfield 301, 3) := by decide +kernel
theorem dX12_encodeWord_57 : decode cX12_encodeWord 57 = .ok (.iload_n 2, 1) := by decide +kernel
theorem dX12_encodeWord_58 : decode cX12_encodeWord 58 = .ok (.laload, 1) := by decide +kernel
theorem dX12_encodeWord_59 : decode cX12_encodeWord 59 = .ok (.iload 4, 2) := by decide +kernel
theorem dX12_encodeWord_61 : decode cX12_encodeWord 61 = .ok (.invokestatic 822, 3) := by decide +kernel
theorem dX12_encodeWord_64 : decode cX12_encodeWord 64 = .ok (.if_icmp .ne 9, 3) := by decide +kernel
theorem dX12_encodeWord_67 : decode cX12_encodeWord 67 = .ok (.iinc 4 1, 3) := by decide +kernel
theorem dX12_encodeWord_70 : decode cX12_encodeWord 70 = .ok (.goto (-46), 3) := by decide +kernel
theorem dX12_encodeWord_73 : decode cX12_encodeWord 73 = .ok (.aload_n 0, 1) := by decide +kernel
theorem dX12_encodeWord_74 : decode cX12_encodeWord 74 = .ok (.iload 4, 2) := by decide +kernel
theorem dX12_encodeWord_76 : decode cX12_encodeWord 76 = .ok (.invokevirtual 813, 3) := by decide +kernel
theorem dX12_encodeWord_79 : decode cX12_encodeWord 79 = .ok (.aload_n 0, 1) := by decide +kernel
theorem dX12_encodeWord_80 : decode cX12_encodeWord 80 = .ok (.iload_n 3, 1) := by decide +kernel
theorem dX12_encodeWord_81 : decode cX12_encodeWord 81 = .ok (.iload 4, 2) := by decide +kernel
theorem dX12_encodeWord_83 : decode cX12_encodeWord 83 = .ok (.isub, 1) := by decide +kernel
theorem dX12_encodeWord_84 : decode cX12_encodeWord 84 = .ok (.invokevirtual 813, 3) := by decide +kernel
theorem dX12_encodeWord_87 : decode cX12_encodeWord 87 = .ok (.iload 4, 2) := by decide +kernel
theorem dX12_encodeWord_89 : decode cX12_encodeWord 89 = .ok (.istore 5, 2) := by decide +kernel
theorem dX12_encodeWord_91 : decode cX12_encodeWord 91 = .ok (.iload 5, 2) := by decide +kernel
theorem dX12_encodeWord_93 : decode cX12_encodeWord 93 = .ok (.iload_n 3, 1) := by decide +kernel
theorem dX12_encodeWord_94 : decode cX12_encodeWord 94 = .ok (.if_icmp .ge 30, 3) := by decide +kernel
theorem dX12_encodeWord_97 : decode cX12_encodeWord 97 = .ok (.aload_n 0, 1) := by decide +kernel
theorem dX12_encodeWord_98 : decode cX12_encodeWord 98 = .ok (.aload_n 0, 1) := by decide +kernel
theorem dX12_encodeWord_99 : decode cX12_encodeWord 99 = .ok (.getfield 298, 3) := by decide +kernel
theorem dX12_encodeWord_102 : decode cX12_encodeWord 102 = .ok (.iload_n 1, 1) := by decide +kernel
theorem dX12_encodeWord_103 : decode cX12_encodeWord 103 = .ok (.laload, 1) := by decide +kernel
theorem dX12_encodeWord_104 : decode cX12_encodeWord 104 = .ok (.aload_n 0, 1) := by decide +kernel
theorem dX12_encodeWord_105 : decode cX12_encodeWord 105 = .ok (.getfield 301, 3) := by decide +kernel
theorem dX12_encodeWord_108 : decode cX12_encodeWord 108 = .ok (.iload_n 1, 1) := by decide +kernel
theorem dX12_encodeWord_109 : decode cX12_encodeWord 109 = .ok (.laload, 1) := by decide +kernel
theorem dX12_encodeWord_110 : decode cX12_encodeWord 110 = .ok (.iload 5, 2) := by decide +kernel
theorem dX12_encodeWord_112 : decode cX12_encodeWord 112 = .ok (.invokestatic 822, 3) := by decide +kernel
theorem dX12_encodeWord_115 : decode cX12_encodeWord 115 = .ok (.invokevirtual 813, 3) := by decide +kernel
theorem dX12_encodeWord_118 : decode cX12_encodeWord 118 = .ok (.iinc 5 1, 3) := by decide +kernel
theorem dX12_encodeWord_121 : decode cX12_encodeWord 121 = .ok (.goto (-30), 3) := by decide +kernel
theorem dX12_encodeWord_124 : decode cX12_encodeWord 124 = .ok (.return_, 1) := by decide +kernel
theorem dX12_encodeList_0 : decode cX12_encodeList 0 = .ok (.iconst 0, 1) := by decide +kernel
theorem dX12_encodeList_1 : decode cX12_encodeList 1 = .ok (.istore_n 3, 1) := by decide +kernel
theorem dX12_encodeList_2 : decode cX12_encodeList 2 = .ok (.iload_n 1, 1) := by decide +kernel
theorem dX12_encodeList_3 : decode cX12_encodeList 3 = .ok (.istore 4, 2) := by decide +kernel
theorem dX12_encodeList_5 : decode cX12_encodeList 5 = .ok (.iload 4, 2) := by decide +kernel
theorem dX12_encodeList_7 : decode cX12_encodeList 7 = .ok (.iload_n 2, 1) := by decide +kernel
theorem dX12_encodeList_8 : decode cX12_encodeList 8 = .ok (.if_icmp .ge 58, 3) := by decide +kernel
theorem dX12_encodeList_11 : decode cX12_encodeList 11 = .ok (.iload_n 3, 1) := by decide +kernel
theorem dX12_encodeList_12 : decode cX12_encodeList 12 = .ok (.iload 4, 2) := by decide +kernel
theorem dX12_encodeList_14 : decode cX12_encodeList 14 = .ok (.iload_n 1, 1) := by decide +kernel
theorem dX12_encodeList_15 : decode cX12_encodeList 15 = .ok (.if_icmp .eq 38, 3) := by decide +kernel
theorem dX12_encodeList_18 : decode cX12_encodeList 18 = .ok (.aload_n 0, 1) := by decide +kernel
theorem dX12_encodeList_19 : decode cX12_encodeList 19 = .ok (.getfield 304, 3) := by decide +kernel
theorem dX12_encodeList_22 : decode cX12_encodeList 22 = .ok (.aload_n 0, 1) := by decide +kernel
theorem dX12_encodeList_23 : decode cX12_encodeList 23 = .ok (.getfield 307, 3) := by decide +kernel
theorem dX12_encodeList_26 : decode cX12_encodeList 26 = .ok (.iload 4, 2) := by decide +kernel
theorem dX12_encodeList_28 : decode cX12_encodeList 28 = .ok (.iaload, 1) := by decide +kernel
theorem dX12_encodeList_29 : decode cX12_encodeList 29 = .ok (.iaload, 1) := by decide +kernel
theorem dX12_encodeList_30 : decode cX12_encodeList 30 = .ok (.bipush 64, 2) := by decide +kernel
theorem dX12_encodeList_32 : decode cX12_encodeList 32 = .ok (.idiv, 1) := by decide +kernel
theorem dX12_encodeList_33 : decode cX12_encodeList 33 = .ok (.aload_n 0, 1) := by decide +kernel
theorem dX12_encodeList_34 : decode cX12_encodeList 34 = .ok (.getfield 304, 3) := by decide +kernel
theorem dX12_encodeList_37 : decode cX12_encodeList 37 = .ok (.aload_n 0, 1) := by decide +kernel
theorem dX12_encodeList_38 : decode cX12_encodeList 38 = .ok (.getfield 307, 3) := by decide +kernel
theorem dX12_encodeList_41 : decode cX12_encodeList 41 = .ok (.iload 4, 2) := by decide +kernel
theorem dX12_encodeList_43 : decode cX12_encodeList 43 = .ok (.iconst 1, 1) := by decide +kernel
theorem dX12_encodeList_44 : decode cX12_encodeList 44 = .ok (.isub, 1) := by decide +kernel
theorem dX12_encodeList_45 : decode cX12_encodeList 45 = .ok (.iaload, 1) := by decide +kernel
theorem dX12_encodeList_46 : decode cX12_encodeList 46 = .ok (.iaload, 1) := by decide +kernel
theorem dX12_encodeList_47 : decode cX12_encodeList 47 = .ok (.bipush 64, 2) := by decide +kernel
theorem dX12_encodeList_49 : decode cX12_encodeList 49 = .ok (.idiv, 1) := by decide +kernel
theorem dX12_encodeList_50 : decode cX12_encodeList 50 = .ok (.if_icmp .eq 7, 3) := by decide +kernel
theorem dX12_encodeList_53 : decode cX12_encodeList 53 = .ok (.iconst 1, 1) := by decide +kernel
theorem dX12_encodeList_54 : decode cX12_encodeList 54 = .ok (.goto 4, 3) := by decide +kernel
theorem dX12_encodeList_57 : decode cX12_encodeList 57 = .ok (.iconst 0, 1) := by decide +kernel
theorem dX12_encodeList_58 : decode cX12_encodeList 58 = .ok (.iadd, 1) := by decide +kernel
theorem dX12_encodeList_59 : decode cX12_encodeList 59 = .ok (.istore_n 3, 1) := by decide +kernel
theorem dX12_encodeList_60 : decode cX12_encodeList 60 = .ok (.iinc 4 1, 3) := by decide +kernel
theorem dX12_encodeList_63 : decode cX12_encodeList 63 = .ok (.goto (-58), 3) := by decide +kernel
theorem dX12_encodeList_66 : decode cX12_encodeList 66 = .ok (.aload_n 0, 1) := by decide +kernel
theorem dX12_encodeList_67 : decode cX12_encodeList 67 = .ok (.iload_n 3, 1) := by decide +kernel
theorem dX12_encodeList_68 : decode cX12_encodeList 68 = .ok (.invokevirtual 826, 3) := by decide +kernel
theorem dX12_encodeList_71 : decode cX12_encodeList 71 = .ok (.iconst 0, 1) := by decide +kernel
theorem dX12_encodeList_72 : decode cX12_encodeList 72 = .ok (.istore 4, 2) := by decide +kernel
theorem dX12_encodeList_74 : decode cX12_encodeList 74 = .ok (.iload_n 1, 1) := by decide +kernel
theorem dX12_encodeList_75 : decode cX12_encodeList 75 = .ok (.istore 5, 2) := by decide +kernel
theorem dX12_encodeList_77 : decode cX12_encodeList 77 = .ok (.iload 5, 2) := by decide +kernel
theorem dX12_encodeList_79 : decode cX12_encodeList 79 = .ok (.iload_n 2, 1) := by decide +kernel
theorem dX12_encodeList_80 : decode cX12_encodeList 80 = .ok (.if_icmp .ge 144, 3) := by decide +kernel
theorem dX12_encodeList_83 : decode cX12_encodeList 83 = .ok (.aload_n 0, 1) := by decide +kernel
theorem dX12_encodeList_84 : decode cX12_encodeList 84 = .ok (.getfield 304, 3) := by decide +kernel
theorem dX12_encodeList_87 : decode cX12_encodeList 87 = .ok (.aload_n 0, 1) := by decide +kernel
theorem dX12_encodeList_88 : decode cX12_encodeList 88 = .ok (.getfield 307, 3) := by decide +kernel
theorem dX12_encodeList_91 : decode cX12_encodeList 91 = .ok (.iload 5, 2) := by decide +kernel
theorem dX12_encodeList_93 : decode cX12_encodeList 93 = .ok (.iaload, 1) := by decide +kernel
theorem dX12_encodeList_94 : decode cX12_encodeList 94 = .ok (.iaload, 1) := by decide +kernel
theorem dX12_encodeList_95 : decode cX12_encodeList 95 = .ok (.bipush 64, 2) := by decide +kernel
theorem dX12_encodeList_97 : decode cX12_encodeList 97 = .ok (.idiv, 1) := by decide +kernel
theorem dX12_encodeList_98 : decode cX12_encodeList 98 = .ok (.istore 6, 2) := by decide +kernel
theorem dX12_encodeList_100 : decode cX12_encodeList 100 = .ok (.iload 5, 2) := by decide +kernel
theorem dX12_encodeList_102 : decode cX12_encodeList 102 = .ok (.istore 7, 2) := by decide +kernel
theorem dX12_encodeList_104 : decode cX12_encodeList 104 = .ok (.iload 7, 2) := by decide +kernel
theorem dX12_encodeList_106 : decode cX12_encodeList 106 = .ok (.iload_n 2, 1) := by decide +kernel
theorem dX12_encodeList_107 : decode cX12_encodeList 107 = .ok (.if_icmp .ge 29, 3) := by decide +kernel
theorem dX12_encodeList_110 : decode cX12_encodeList 110 = .ok (.aload_n 0, 1) := by decide +kernel
theorem dX12_encodeList_111 : decode cX12_encodeList 111 = .ok (.getfield 304, 3) := by decide +kernel
theorem dX12_encodeList_114 : decode cX12_encodeList 114 = .ok (.aload_n 0, 1) := by decide +kernel
theorem dX12_encodeList_115 : decode cX12_encodeList 115 = .ok (.getfield 307, 3) := by decide +kernel
theorem dX12_encodeList_118 : decode cX12_encodeList 118 = .ok (.iload 7, 2) := by decide +kernel
theorem dX12_encodeList_120 : decode cX12_encodeList 120 = .ok (.iaload, 1) := by decide +kernel
theorem dX12_encodeList_121 : decode cX12_encodeList 121 = .ok (.iaload, 1) := by decide +kernel
theorem dX12_encodeList_122 : decode cX12_encodeList 122 = .ok (.bipush 64, 2) := by decide +kernel
theorem dX12_encodeList_124 : decode cX12_encodeList 124 = .ok (.idiv, 1) := by decide +kernel
theorem dX12_encodeList_125 : decode cX12_encodeList 125 = .ok (.iload 6, 2) := by decide +kernel
theorem dX12_encodeList_127 : decode cX12_encodeList 127 = .ok (.if_icmp .ne 9, 3) := by decide +kernel
theorem dX12_encodeList_130 : decode cX12_encodeList 130 = .ok (.iinc 7 1, 3) := by decide +kernel
theorem dX12_encodeList_133 : decode cX12_encodeList 133 = .ok (.goto (-29), 3) := by decide +kernel
theorem dX12_encodeList_136 : decode cX12_encodeList 136 = .ok (.aload_n 0, 1) := by decide +kernel
theorem dX12_encodeList_137 : decode cX12_encodeList 137 = .ok (.iload 6, 2) := by decide +kernel
theorem dX12_encodeList_139 : decode cX12_encodeList 139 = .ok (.iload 4, 2) := by decide +kernel
theorem dX12_encodeList_141 : decode cX12_encodeList 141 = .ok (.isub, 1) := by decide +kernel
theorem dX12_encodeList_142 : decode cX12_encodeList 142 = .ok (.invokevirtual 826, 3) := by decide +kernel
theorem dX12_encodeList_145 : decode cX12_encodeList 145 = .ok (.iload 6, 2) := by decide +kernel
theorem dX12_encodeList_147 : decode cX12_encodeList 147 = .ok (.istore 4, 2) := by decide +kernel
theorem dX12_encodeList_149 : decode cX12_encodeList 149 = .ok (.aload_n 0, 1) := by decide +kernel
theorem dX12_encodeList_150 : decode cX12_encodeList 150 = .ok (.iload 7, 2) := by decide +kernel
theorem dX12_encodeList_152 : decode cX12_encodeList 152 = .ok (.iload 5, 2) := by decide +kernel
theorem dX12_encodeList_154 : decode cX12_encodeList 154 = .ok (.isub, 1) := by decide +kernel
theorem dX12_encodeList_155 : decode cX12_encodeList 155 = .ok (.invokevirtual 826, 3) := by decide +kernel
theorem dX12_encodeList_158 : decode cX12_encodeList 158 = .ok (.iconst 0, 1) := by decide +kernel
theorem dX12_encodeList_159 : decode cX12_encodeList 159 = .ok (.istore 8, 2) := by decide +kernel
theorem dX12_encodeList_161 : decode cX12_encodeList 161 = .ok (.iload 5, 2) := by decide +kernel
theorem dX12_encodeList_163 : decode cX12_encodeList 163 = .ok (.istore 9, 2) := by decide +kernel
theorem dX12_encodeList_165 : decode cX12_encodeList 165 = .ok (.iload 9, 2) := by decide +kernel
theorem dX12_encodeList_167 : decode cX12_encodeList 167 = .ok (.iload 7, 2) := by decide +kernel
theorem dX12_encodeList_169 : decode cX12_encodeList 169 = .ok (.if_icmp .ge 48, 3) := by decide +kernel
theorem dX12_encodeList_172 : decode cX12_encodeList 172 = .ok (.aload_n 0, 1) := by decide +kernel
theorem dX12_encodeList_173 : decode cX12_encodeList 173 = .ok (.aload_n 0, 1) := by decide +kernel
theorem dX12_encodeList_174 : decode cX12_encodeList 174 = .ok (.getfield 304, 3) := by decide +kernel
theorem dX12_encodeList_177 : decode cX12_encodeList 177 = .ok (.aload_n 0, 1) := by decide +kernel
theorem dX12_encodeList_178 : decode cX12_encodeList 178 = .ok (.getfield 307, 3) := by decide +kernel
theorem dX12_encodeList_181 : decode cX12_encodeList 181 = .ok (.iload 9, 2) := by decide +kernel
theorem dX12_encodeList_183 : decode cX12_encodeList 183 = .ok (.iaload, 1) := by decide +kernel
theorem dX12_encodeList_184 : decode cX12_encodeList 184 = .ok (.iaload, 1) := by decide +kernel
theorem dX12_encodeList_185 : decode cX12_encodeList 185 = .ok (.bipush 64, 2) := by decide +kernel
theorem dX12_encodeList_187 : decode cX12_encodeList 187 = .ok (.irem, 1) := by decide +kernel
theorem dX12_encodeList_188 : decode cX12_encodeList 188 = .ok (.iload 8, 2) := by decide +kernel
theorem dX12_encodeList_190 : decode cX12_encodeList 190 = .ok (.isub, 1) := by decide +kernel
theorem dX12_encodeList_191 : decode cX12_encodeList 191 = .ok (.invokevirtual 826, 3) := by decide +kernel
theorem dX12_encodeList_194 : decode cX12_encodeList 194 = .ok (.aload_n 0, 1) := by decide +kernel
theorem dX12_encodeList_195 : decode cX12_encodeList 195 = .ok (.getfield 304, 3) := by decide +kernel
theorem dX12_encodeList_198 : decode cX12_encodeList 198 = .ok (.aload_n 0, 1) := by decide +kernel
theorem dX12_encodeList_199 : decode cX12_encodeList 199 = .ok (.getfield 307, 3) := by decide +kernel
theorem dX12_encodeList_202 : decode cX12_encodeList 202 = .ok (.iload 9, 2) := by decide +kernel
theorem dX12_encodeList_204 : decode cX12_encodeList 204 = .ok (.iaload, 1) := by decide +kernel
theorem dX12_encodeList_205 : decode cX12_encodeList 205 = .ok (.iaload, 1) := by decide +kernel
theorem dX12_encodeList_206 : decode cX12_encodeList 206 = .ok (.bipush 64, 2) := by decide +kernel
theorem dX12_encodeList_208 : decode cX12_encodeList 208 = .ok (.irem, 1) := by decide +kernel
theorem dX12_encodeList_209 : decode cX12_encodeList 209 = .ok (.istore 8, 2) := by decide +kernel
theorem dX12_encodeList_211 : decode cX12_encodeList 211 = .ok (.iinc 9 1, 3) := by decide +kernel
theorem dX12_encodeList_214 : decode cX12_encodeList 214 = .ok (.goto (-49), 3) := by decide +kernel
theorem dX12_encodeList_217 : decode cX12_encodeList 217 = .ok (.iload 7, 2) := by decide +kernel
theorem dX12_encodeList_219 : decode cX12_encodeList 219 = .ok (.istore 5, 2) := by decide +kernel
theorem dX12_encodeList_221 : decode cX12_encodeList 221 = .ok (.goto (-144), 3) := by decide +kernel
theorem dX12_encodeList_224 : decode cX12_encodeList 224 = .ok (.return_, 1) := by decide +kernel
